theorem dX12_init_0 : decode cX12_init 0 = .ok (.aload_n 0, 1) := by decide +kernel
theorem dX12_init_1 : decode cX12_init 1 = .ok (.invokespecial 1, 3) := by decide +kernel
theorem dX12_init_4 : decode cX12_init 4 = .ok (.aload_n 0, 1) := by decide +kernel
theorem dX12_init_5 : decode cX12_init 5 = .ok (.sipush 700, 3) := by decide +kernel
theorem dX12_init_8 : decode cX12_init 8 = .ok (.newarray .int, 2) := by decide +kernel
theorem dX12_init_10 : decode cX12_init 10 = .ok (.putfield 7, 3) := by decide +kernel
theorem dX12_init_13 : decode cX12_init 13 = .ok (.aload_n 0, 1) := by decide +kernel
theorem dX12_init_14 : decode cX12_init 14 = .ok (.bipush 101, 2) := by decide +kernel
theorem dX12_init_16 : decode cX12_init 16 = .ok (.newarray .int, 2) := by decide +kernel
theorem dX12_init_18 : decode cX12_init 18 = .ok (.dup, 1) := by decide +kernel
theorem dX12_init_19 : decode cX12_init 19 = .ok (.iconst 0, 1) := by decide +kernel
theorem dX12_init_20 : decode cX12_init 20 = .ok (.bipush 98, 2) := by decide +kernel
theorem dX12_init_22 : decode cX12_init 22 = .ok (.iastore, 1) := by decide +kernel
theorem dX12_init_23 : decode cX12_init 23 = .ok (.dup, 1) := by decide +kernel
theorem dX12_init_24 : decode cX12_init 24 = .ok (.iconst 1, 1) := by decide +kernel
theorem dX12_init_25 : decode cX12_init 25 = .ok (.bipush 111, 2) := by decide +kernel
theorem dX12_init_27 : decode cX12_init 27 = .ok (.iastore, 1) := by decide +kernel
theorem dX12_init_28 : decode cX12_init 28 = .ok (.dup, 1) := by decide +kernel
theorem dX12_init_29 : decode cX12_init 29 = .ok (.iconst 2, 1) := by decide +kernel
theorem dX12_init_30 : decode cX12_init 30 = .ok (.bipush 120, 2) := by decide +kernel
theorem dX12_init_32 : decode cX12_init 32 = .ok (.iastore, 1) := by decide +kernel
theorem dX12_init_33 : decode cX12_init 33 = .ok (.dup, 1) := by decide +kernel
theorem dX12_init_34 : decode cX12_init 34 = .ok (.iconst 3, 1) := by decide +kernel
theorem dX12_init_35 : decode cX12_init 35 = .ok (.bipush 32, 2) := by decide +kernel
theorem dX12_init_37 : decode cX12_init 37 = .ok (.iastore, 1) := by decide +kernel
theorem dX12_init_38 : decode cX12_init 38 = .ok (.dup, 1) := by decide +kernel
theorem dX12_init_39 : decode cX12_init 39 = .ok (.iconst 4, 1) := by decide +kernel
theorem dX12_init_40 : decode cX12_init 40 = .ok (.bipush 116, 2) := by decide +kernel
theorem dX12_init_42 : decode cX12_init 42 = .ok (.iastore, 1) := by decide +kernel
theorem dX12_init_43 : decode cX12_init 43 = .ok (.dup, 1) := by decide +kernel
theorem dX12_init_44 : decode cX12_init 44 = .ok (.iconst 5, 1) := by decide +kernel
theorem dX12_init_45 : decode cX12_init 45 = .ok (.bipush 111, 2) := by decide +kernel
theorem dX12_init_47 : decode cX12_init 47 = .ok (.iastore, 1) := by decide +kernel
theorem dX12_init_48 : decode cX12_init 48 = .ok (.dup, 1) := by decide +kernel
theorem dX12_init_49 : decode cX12_init 49 = .ok (.bipush 6, 2) := by decide +kernel
theorem dX12_init_51 : decode cX12_init 51 = .ok (.bipush 111, 2) := by decide +kernel
theorem dX12_init_53 : decode cX12_init 53 = .ok (.iastore, 1) := by decide +kernel
theorem dX12_init_54 : decode cX12_init 54 = .ok (.dup, 1) := by decide +kernel
theorem dX12_init_55 : decode cX12_init 55 = .ok (.bipush 7, 2) := by decide +kernel
theorem dX12_init_57 : decode cX12_init 57 = .ok (.bipush 116, 2) := by decide +kernel
theorem dX12_init_59 : decode cX12_init 59 = .ok (.iastore, 1) := by decide +kernel
theorem dX12_init_60 : decode cX12_init 60 = .ok (.dup, 1) := by decide +kernel
theorem dX12_init_61 : decode cX12_init 61 = .ok (.bipush 8, 2) := by decide +kernel
theorem dX12_init_63 : decode cX12_init 63 = .ok (.bipush 104, 2) := by decide +kernel
theorem dX12_init_65 : decode cX12_init 65 = .ok (.iastore, 1) := by decide +kernel
theorem dX12_init_66 : decode cX12_init 66 = .ok (.dup, 1) := by decide +kernel
theorem dX12_init_67 : decode cX12_init 67 = .ok (.bipush 9, 2) := by decide +kernel
theorem dX12_init_69 : decode cX12_init 69 = .ok (.bipush 32, 2) := by decide +kernel
theorem dX12_init_71 : decode cX12_init 71 = .ok (.iastore, 1) := by decide +kernel
theorem dX12_init_72 : decode cX12_init 72 = .ok (.dup, 1) := by decide +kernel
theorem dX12_init_73 : decode cX12_init 73 = .ok (.bipush 10, 2) := by decide +kernel
theorem dX12_init_75 : decode cX12_init 75 = .ok (.bipush 107, 2) := by decide +kernel
theorem dX12_init_77 : decode cX12_init 77 = .ok (.iastore, 1) := by decide +kernel
theorem dX12_init_78 : decode cX12_init 78 = .ok (.dup, 1) := by decide +kernel
theorem dX12_init_79 : decode cX12_init 79 = .ok (.bipush 11, 2) := by decide +kernel
theorem dX12_init_81 : decode cX12_init 81 = .ok (.bipush 105, 2) := by decide +kernel
theorem dX12_init_83 : decode cX12_init 83 = .ok (.iastore, 1) := by decide +kernel
theorem dX12_init_84 : decode cX12_init 84 = .ok (.dup, 1) := by decide +kernel
theorem dX12_init_85 : decode cX12_init 85 = .ok (.bipush 12, 2) := by decide +kernel
theorem dX12_init_87 : decode cX12_init 87 = .ok (.bipush 110, 2) := by decide +kernel
theorem dX12_init_89 : decode cX12_init 89 = .ok (.iastore, 1) := by decide +kernel
theorem dX12_init_90 : decode cX12_init 90 = .ok (.dup, 1) := by decide +kernel
theorem dX12_init_91 : decode cX12_init 91 = .ok (.bipush 13, 2) := by decide +kernel
theorem dX12_init_93 : decode cX12_init 93 = .ok (.bipush 32, 2) := by decide +kernel
theorem dX12_init_95 : decode cX12_init 95 = .ok (.iastore, 1) := by decide +kernel
theorem dX12_init_96 : decode cX12_init 96 = .ok (.dup, 1) := by decide +kernel
theorem dX12_init_97 : decode cX12_init 97 = .ok (.bipush 14, 2) := by decide +kernel
theorem dX12_init_99 : decode cX12_init 99 = .ok (.bipush 103, 2) := by decide +kernel
theorem dX12_init_101 : decode cX12_init 101 = .ok (.iastore, 1) := by decide +kernel
theorem dX12_init_102 : decode cX12_init 102 = .ok (.dup, 1) := by decide +kernel
theorem dX12_init_103 : decode cX12_init 103 = .ok (.bipush 15, 2) := by decide +kernel
theorem dX12_init_105 : decode cX12_init 105 = .ok (.bipush 117, 2) := by decide +kernel
theorem dX12_init_107 : decode cX12_init 107 = .ok (.iastore, 1) := by decide +kernel
theorem dX12_init_108 : decode cX12_init 108 = .ok (.dup, 1) := by decide +kernel
theorem dX12_init_109 : decode cX12_init 109 = .ok (.bipush 16, 2) := by decide +kernel
theorem dX12_init_111 : decode cX12_init 111 = .ok (.bipush 101, 2) := by decide +kernel
theorem dX12_init_113 : decode cX12_init 113 = .ok (.iastore, 1) := by decide +kernel
theorem dX12_init_114 : decode cX12_init 114 = .ok (.dup, 1) := by decide +kernel
theorem dX12_init_115 : decode cX12_init 115 = .ok (.bipush 17, 2) := by decide +kernel
theorem dX12_init_117 : decode cX12_init 117 = .ok (.bipush 115, 2) := by decide +kernel
theorem dX12_init_119 : decode cX12_init 119 = .ok (.iastore, 1) := by decide +kernel
theorem dX12_init_120 : decode cX12_init 120 = .ok (.dup, 1) := by decide +kernel
theorem dX12_init_121 : decode cX12_init 121 = .ok (.bipush 18, 2) := by decide +kernel
theorem dX12_init_123 : decode cX12_init 123 = .ok (.bipush 116, 2) := by decide +kernel
theorem dX12_init_125 : decode cX12_init 125 = .ok (.iastore, 1) := by decide +kernel
theorem dX12_init_126 : decode cX12_init 126 = .ok (.dup, 1) := by decide +kernel
theorem dX12_init_127 : decode cX12_init 127 = .ok (.bipush 19, 2) := by decide +kernel
theorem dX12_init_129 : decode cX12_init 129 = .ok (.bipush 32, 2) := by decide +kernel
theorem dX12_init_131 : decode cX12_init 131 = .ok (.iastore, 1) := by decide +kernel
theorem dX12_init_132 : decode cX12_init 132 = .ok (.dup, 1) := by decide +kernel
theorem dX12_init_133 : decode cX12_init 133 = .ok (.bipush 20, 2) := by decide +kernel
theorem dX12_init_135 : decode cX12_init 135 = .ok (.bipush 100, 2) := by decide +kernel
theorem dX12_init_137 : decode cX12_init 137 = .ok (.iastore, 1) := by decide +kernel
theorem dX12_init_138 : decode cX12_init 138 = .ok (.dup, 1) := by decide +kernel
theorem dX12_init_139 : decode cX12_init 139 = .ok (.bipush 21, 2) := by decide +kernel
theorem dX12_init_141 : decode cX12_init 141 = .ok (.bipush 97, 2) := by decide +kernel
theorem dX12_init_143 : decode cX12_init 143 = .ok (.iastore, 1) := by decide +kernel
theorem dX12_init_144 : decode cX12_init 144 = .ok (.dup, 1) := by decide +kernel
theorem dX12_init_145 : decode cX12_init 145 = .ok (.bipush 22, 2) := by decide +kernel
theorem dX12_init_147 : decode cX12_init 147 = .ok (.bipush 109, 2) := by decide +kernel
theorem dX12_init_149 : decode cX12_init 149 = .ok (.iastore, 1) := by decide +kernel
theorem dX12_init_150 : decode cX12_init 150 = .ok (.dup, 1) := by decide +kernel
theorem dX12_init_151 : decode cX12_init 151 = .ok (.bipush 23, 2) := by decide +kernel
theorem dX12_init_153 : decode cX12_init 153 = .ok (.bipush 112, 2) := by decide +kernel
theorem dX12_init_155 : decode cX12_init 155 = .ok (.iastore, 1) := by decide +kernel
theorem dX12_init_156 : decode cX12_init 156 = .ok (.dup, 1) := by decide +kernel
theorem dX12_init_157 : decode cX12_init 157 = .ok (.bipush 24, 2) := by decide +kernel
theorem dX12_init_159 : decode cX12_init 159 = .ok (.bipush 32, 2) := by decide +kernel
theorem dX12_init_161 : decode cX12_init 161 = .ok (.iastore, 1) := by decide +kernel
theorem dX12_init_162 : decode cX12_init 162 = .ok (.dup, 1) := by decide +kernel
theorem dX12_init_163 : decode cX12_init 163 = .ok (.bipush 25, 2) := by decide +kernel
theorem dX12_init_165 : decode cX12_init 165 = .ok (.bipush 115, 2) := by decide +kernel
theorem dX12_init_167 : decode cX12_init 167 = .ok (.iastore, 1) := by decide +kernel
theorem dX12_init_168 : decode cX12_init 168 = .ok (.dup, 1) := by decide +kernel
theorem dX12_init_169 : decode cX12_init 169 = .ok (.bipush 26, 2) := by decide +kernel
theorem dX12_init_171 : decode cX12_init 171 = .ok (.bipush 101, 2) := by decide +kernel
theorem dX12_init_173 : decode cX12_init 173 = .ok (.iastore, 1) := by decide +kernel
theorem dX12_init_174 : decode cX12_init 174 = .ok (.dup, 1) := by decide +kernel
theorem dX12_init_175 : decode cX12_init 175 = .ok (.bipush 27, 2) := by decide +kernel
theorem dX12_init_177 : decode cX12_init 177 = .ok (.bipush 101, 2) := by decide +kernel
theorem dX12_init_179 : decode cX12_init 179 = .ok (.iastore, 1) := by decide +kernel
theorem dX12_init_180 : decode cX12_init 180 = .ok (.dup, 1) := by decide +kernel
theorem dX12_init_181 : decode cX12_init 181 = .ok (.bipush 28, 2) := by decide +kernel
theorem dX12_init_183 : decode cX12_init 183 = .ok (.bipush 100, 2) := by decide +kernel
theorem dX12_init_185 : decode cX12_init 185 = .ok (.iastore, 1) := by decide +kernel
theorem dX12_init_186 : decode cX12_init 186 = .ok (.dup, 1) := by decide +kernel
theorem dX12_init_187 : decode cX12_init 187 = .ok (.bipush 29, 2) := by decide +kernel
theorem dX12_init_189 : decode cX12_init 189 = .ok (.bipush 32, 2) := by decide +kernel
theorem dX12_init_191 : decode cX12_init 191 = .ok (.iastore, 1) := by decide +kernel
theorem dX12_init_192 : decode cX12_init 192 = .ok (.dup, 1) := by decide +kernel
theorem dX12_init_193 : decode cX12_init 193 = .ok (.bipush 30, 2) := by decide +kernel
theorem dX12_init_195 : decode cX12_init 195 = .ok (.bipush 108, 2) := by decide +kernel
theorem dX12_init_197 : decode cX12_init 197 = .ok (.iastore, 1) := by decide +kernel
theorem dX12_init_198 : decode cX12_init 198 = .ok (.dup, 1) := by decide +kernel
theorem dX12_init_199 : decode cX12_init 199 = .ok (.bipush 31, 2) := by decide +kernel
theorem dX12_init_201 : decode cX12_init 201 = .ok (.bipush 97, 2) := by decide +kernel
theorem dX12_init_203 : decode cX12_init 203 = .ok (.iastore, 1) := by decide +kernel
theorem dX12_init_204 : decode cX12_init 204 = .ok (.dup, 1) := by decide +kernel
theorem dX12_init_205 : decode cX12_init 205 = .ok (.bipush 32, 2) := by decide +kernel
theorem dX12_init_207 : decode cX12_init 207 = .ok (.bipush 119, 2) := by decide +kernel
theorem dX12_init_209 : decode cX12_init 209 = .ok (.iastore, 1) := by decide +kernel
theorem dX12_init_210 : decode cX12_init 210 = .ok (.dup, 1) := by decide +kernel
theorem dX12_init_211 : decode cX12_init 211 = .ok (.bipush 33, 2) := by decide +kernel
theorem dX12_init_213 : decode cX12_init 213 = .ok (.bipush 32, 2) := by decide +kernel
theorem dX12_init_215 : decode cX12_init 215 = .ok (.iastore, 1) := by decide +kernel
theorem dX12_init_216 : decode cX12_init 216 = .ok (.dup, 1) := by decide +kernel
theorem dX12_init_217 : decode cX12_init 217 = .ok (.bipush 34, 2) := by decide +kernel
theorem dX12_init_219 : decode cX12_init 219 = .ok (.bipush 119, 2) := by decide +kernel
theorem dX12_init_221 : decode cX12_init 221 = .ok (.iastore, 1) := by decide +kernel
theorem dX12_init_222 : decode cX12_init 222 = .ok (.dup, 1) := by decide +kernel
theorem dX12_init_223 : decode cX12_init 223 = .ok (.bipush 35, 2) := by decide +kernel
theorem dX12_init_225 : decode cX12_init 225 = .ok (.bipush 101, 2) := by decide +kernel
theorem dX12_init_227 : decode cX12_init 227 = .ok (.iastore, 1) := by decide +kernel
theorem dX12_init_228 : decode cX12_init 228 = .ok (.dup, 1) := by decide +kernel
theorem dX12_init_229 : decode cX12_init 229 = .ok (.bipush 36, 2) := by decide +kernel
theorem dX12_init_231 : decode cX12_init 231 = .ok (.bipush 97, 2) := by decide +kernel
theorem dX12_init_233 : decode cX12_init 233 = .ok (.iastore, 1) := by decide +kernel
theorem dX12_init_234 : decode cX12_init 234 = .ok (.dup, 1) := by decide +kernel
theorem dX12_init_235 : decode cX12_init 235 = .ok (.bipush 37, 2) := by decide +kernel
theorem dX12_init_237 : decode cX12_init 237 = .ok (.bipush 114, 2) := by decide +kernel
theorem dX12_init_239 : decode cX12_init 239 = .ok (.iastore, 1) := by decide +kernel
theorem dX12_init_240 : decode cX12_init 240 = .ok (.dup, 1) := by decide +kernel
theorem dX12_init_241 : decode cX12_init 241 = .ok (.bipush 38, 2) := by decide +kernel
theorem dX12_init_243 : decode cX12_init 243 = .ok (.bipush 32, 2) := by decide +kernel
theorem dX12_init_245 : decode cX12_init 245 = .ok (.iastore, 1) := by decide +kernel
theorem dX12_init_246 : decode cX12_init 246 = .ok (.dup, 1) := by decide +kernel
theorem dX12_init_247 : decode cX12_init 247 = .ok (.bipush 39, 2) := by decide +kernel
theorem dX12_init_249 : decode cX12_init 249 = .ok (.bipush 115, 2) := by decide +kernel
theorem dX12_init_251 : decode cX12_init 251 = .ok (.iastore, 1) := by decide +kernel
theorem dX12_init_252 : decode cX12_init 252 = .ok (.dup, 1) := by decide +kernel
theorem dX12_init_253 : decode cX12_init 253 = .ok (.bipush 40, 2) := by decide +kernel
theorem dX12_init_255 : decode cX12_init 255 = .ok (.bipush 111, 2) := by decide +kernel
theorem dX12_init_257 : decode cX12_init 257 = .ok (.iastore, 1) := by decide +kernel
theorem dX12_init_258 : decode cX12_init 258 = .ok (.dup, 1) := by decide +kernel
theorem dX12_init_259 : decode cX12_init 259 = .ok (.bipush 41, 2) := by decide +kernel
theorem dX12_init_261 : decode cX12_init 261 = .ok (.bipush 117, 2) := by decide +kernel
theorem dX12_init_263 : decode cX12_init 263 = .ok (.iastore, 1) := by decide +kernel
theorem dX12_init_264 : decode cX12_init 264 = .ok (.dup, 1) := by decide +kernel
theorem dX12_init_265 : decode cX12_init 265 = .ok (.bipush 42, 2) := by decide +kernel
theorem dX12_init_267 : decode cX12_init 267 = .ok (.bipush 114, 2) := by decide +kernel
theorem dX12_init_269 : decode cX12_init 269 = .ok (.iastore, 1) := by decide +kernel
theorem dX12_init_270 : decode cX12_init 270 = .ok (.dup, 1) := by decide +kernel
theorem dX12_init_271 : decode cX12_init 271 = .ok (.bipush 43, 2) := by decide +kernel
theorem dX12_init_273 : decode cX12_init 273 = .ok (.bipush 32, 2) := by decide +kernel
theorem dX12_init_275 : decode cX12_init 275 = .ok (.iastore, 1) := by decide +kernel
theorem dX12_init_276 : decode cX12_init 276 = .ok (.dup, 1) := by decide +kernel
theorem dX12_init_277 : decode cX12_init 277 = .ok (.bipush 44, 2) := by decide +kernel
theorem dX12_init_279 : decode cX12_init 279 = .ok (.bipush 99, 2) := by decide +kernel
theorem dX12_init_281 : decode cX12_init 281 = .ok (.iastore, 1) := by decide +kernel
theorem dX12_init_282 : decode cX12_init 282 = .ok (.dup, 1) := by decide +kernel
theorem dX12_init_283 : decode cX12_init 283 = .ok (.bipush 45, 2) := by decide +kernel
theorem dX12_init_285 : decode cX12_init 285 = .ok (.bipush 104, 2) := by decide +kernel
theorem dX12_init_287 : decode cX12_init 287 = .ok (.iastore, 1) := by decide +kernel
theorem dX12_init_288 : decode cX12_init 288 = .ok (.dup, 1) := by decide +kernel
theorem dX12_init_289 : decode cX12_init 289 = .ok (.bipush 46, 2) := by decide +kernel
theorem dX12_init_291 : decode cX12_init 291 = .ok (.bipush 97, 2) := by decide +kernel
theorem dX12_init_293 : decode cX12_init 293 = .ok (.iastore, 1) := by decide +kernel
theorem dX12_init_294 : decode cX12_init 294 = .ok (.dup, 1) := by decide +kernel
theorem dX12_init_295 : decode cX12_init 295 = .ok (.bipush 47, 2) := by decide +kernel
theorem dX12_init_297 : decode cX12_init 297 = .ok (.bipush 114, 2) := by decide +kernel
theorem dX12_init_299 : decode cX12_init 299 = .ok (.iastore, 1) := by decide +kernel
theorem dX12_init_300 : decode cX12_init 300 = .ok (.dup, 1) := by decide +kernel
theorem dX12_init_301 : decode cX12_init 301 = .ok (.bipush 48, 2) := by decide +kernel
theorem dX12_init_303 : decode cX12_init 303 = .ok (.bipush 109, 2) := by decide +kernel
theorem dX12_init_305 : decode cX12_init 305 = .ok (.iastore, 1) := by decide +kernel
theorem dX12_init_306 : decode cX12_init 306 = .ok (.dup, 1) := by decide +kernel
theorem dX12_init_307 : decode cX12_init 307 = .ok (.bipush 49, 2) := by decide +kernel
theorem dX12_init_309 : decode cX12_init 309 = .ok (.bipush 32, 2) := by decide +kernel
theorem dX12_init_311 : decode cX12_init 311 = .ok (.iastore, 1) := by decide +kernel
theorem dX12_init_312 : decode cX12_init 312 = .ok (.dup, 1) := by decide +kernel
theorem dX12_init_313 : decode cX12_init 313 = .ok (.bipush 50, 2) := by decide +kernel
theorem dX12_init_315 : decode cX12_init 315 = .ok (.bipush 97, 2) := by decide +kernel
theorem dX12_init_317 : decode cX12_init 317 = .ok (.iastore, 1) := by decide +kernel
theorem dX12_init_318 : decode cX12_init 318 = .ok (.dup, 1) := by decide +kernel
theorem dX12_init_319 : decode cX12_init 319 = .ok (.bipush 51, 2) := by decide +kernel
theorem dX12_init_321 : decode cX12_init 321 = .ok (.bipush 110, 2) := by decide +kernel
theorem dX12_init_323 : decode cX12_init 323 = .ok (.iastore, 1) := by decide +kernel
theorem dX12_init_324 : decode cX12_init 324 = .ok (.dup, 1) := by decide +kernel
theorem dX12_init_325 : decode cX12_init 325 = .ok (.bipush 52, 2) := by decide +kernel
theorem dX12_init_327 : decode cX12_init 327 = .ok (.bipush 100, 2) := by decide +kernel
theorem dX12_init_329 : decode cX12_init 329 = .ok (.iastore, 1) := by decide +kernel
theorem dX12_init_330 : decode cX12_init 330 = .ok (.dup, 1) := by decide +kernel
theorem dX12_init_331 : decode cX12_init 331 = .ok (.bipush 53, 2) := by decide +kernel
theorem dX12_init_333 : decode cX12_init 333 = .ok (.bipush 32, 2) := by decide +kernel
theorem dX12_init_335 : decode cX12_init 335 = .ok (.iastore, 1) := by decide +kernel
theorem dX12_init_336 : decode cX12_init 336 = .ok (.dup, 1) := by decide +kernel
theorem dX12_init_337 : decode cX12_init 337 = .ok (.bipush 54, 2) := by decide +kernel
theorem dX12_init_339 : decode cX12_init 339 = .ok (.bipush 111, 2) := by decide +kernel
theorem dX12_init_341 : decode cX12_init 341 = .ok (.iastore, 1) := by decide +kernel
theorem dX12_init_342 : decode cX12_init 342 = .ok (.dup, 1) := by decide +kernel
theorem dX12_init_343 : decode cX12_init 343 = .ok (.bipush 55, 2) := by decide +kernel
theorem dX12_init_345 : decode cX12_init 345 = .ok (.bipush 114, 2) := by decide +kernel
theorem dX12_init_347 : decode cX12_init 347 = .ok (.iastore, 1) := by decide +kernel
theorem dX12_init_348 : decode cX12_init 348 = .ok (.dup, 1) := by decide +kernel
theorem dX12_init_349 : decode cX12_init 349 = .ok (.bipush 56, 2) := by decide +kernel
theorem dX12_init_351 : decode cX12_init 351 = .ok (.bipush 32, 2) := by decide +kernel
theorem dX12_init_353 : decode cX12_init 353 = .ok (.iastore, 1) := by decide +kernel
theorem dX12_init_354 : decode cX12_init 354 = .ok (.dup, 1) := by decide +kernel
theorem dX12_init_355 : decode cX12_init 355 = .ok (.bipush 57, 2) := by decide +kernel
theorem dX12_init_357 : decode cX12_init 357 = .ok (.bipush 110, 2) := by decide +kernel
theorem dX12_init_359 : decode cX12_init 359 = .ok (.iastore, 1) := by decide +kernel
theorem dX12_init_360 : decode cX12_init 360 = .ok (.dup, 1) := by decide +kernel
theorem dX12_init_361 : decode cX12_init 361 = .ok (.bipush 58, 2) := by decide +kernel
theorem dX12_init_363 : decode cX12_init 363 = .ok (.bipush 111, 2) := by decide +kernel
theorem dX12_init_365 : decode cX12_init 365 = .ok (.iastore, 1) := by decide +kernel
theorem dX12_init_366 : decode cX12_init 366 = .ok (.dup, 1) := by decide +kernel
theorem dX12_init_367 : decode cX12_init 367 = .ok (.bipush 59, 2) := by decide +kernel
theorem dX12_init_369 : decode cX12_init 369 = .ok (.bipush 116, 2) := by decide +kernel
theorem dX12_init_371 : decode cX12_init 371 = .ok (.iastore, 1) := by decide +kernel
theorem dX12_init_372 : decode cX12_init 372 = .ok (.dup, 1) := by decide +kernel
theorem dX12_init_373 : decode cX12_init 373 = .ok (.bipush 60, 2) := by decide +kernel
theorem dX12_init_375 : decode cX12_init 375 = .ok (.bipush 32, 2) := by decide +kernel
theorem dX12_init_377 : decode cX12_init 377 = .ok (.iastore, 1) := by decide +kernel
theorem dX12_init_378 : decode cX12_init 378 = .ok (.dup, 1) := by decide +kernel
theorem dX12_init_379 : decode cX12_init 379 = .ok (.bipush 61, 2) := by decide +kernel
theorem dX12_init_381 : decode cX12_init 381 = .ok (.bipush 115, 2) := by decide +kernel
theorem dX12_init_383 : decode cX12_init 383 = .ok (.iastore, 1) := by decide +kernel
theorem dX12_init_384 : decode cX12_init 384 = .ok (.dup, 1) := by decide +kernel
theorem dX12_init_385 : decode cX12_init 385 = .ok (.bipush 62, 2) := by decide +kernel
theorem dX12_init_387 : decode cX12_init 387 = .ok (.bipush 112, 2) := by decide +kernel
theorem dX12_init_389 : decode cX12_init 389 = .ok (.iastore, 1) := by decide +kernel
theorem dX12_init_390 : decode cX12_init 390 = .ok (.dup, 1) := by decide +kernel
theorem dX12_init_391 : decode cX12_init 391 = .ok (.bipush 63, 2) := by decide +kernel
theorem dX12_init_393 : decode cX12_init 393 = .ok (.bipush 114, 2) := by decide +kernel
theorem dX12_init_395 : decode cX12_init 395 = .ok (.iastore, 1) := by decide +kernel
theorem dX12_init_396 : decode cX12_init 396 = .ok (.dup, 1) := by decide +kernel
theorem dX12_init_397 : decode cX12_init 397 = .ok (.bipush 64, 2) := by decide +kernel
theorem dX12_init_399 : decode cX12_init 399 = .ok (.bipush 105, 2) := by decide +kernel
theorem dX12_init_401 : decode cX12_init 401 = .ok (.iastore, 1) := by decide +kernel
theorem dX12_init_402 : decode cX12_init 402 = .ok (.dup, 1) := by decide +kernel
theorem dX12_init_403 : decode cX12_init 403 = .ok (.bipush 65, 2) := by decide +kernel
theorem dX12_init_405 : decode cX12_init 405 = .ok (.bipush 110, 2) := by decide +kernel
theorem dX12_init_407 : decode cX12_init 407 = .ok (.iastore, 1) := by decide +kernel
theorem dX12_init_408 : decode cX12_init 408 = .ok (.dup, 1) := by decide +kernel
theorem dX12_init_409 : decode cX12_init 409 = .ok (.bipush 66, 2) := by decide +kernel
theorem dX12_init_411 : decode cX12_init 411 = .ok (.bipush 103, 2) := by decide +kernel
theorem dX12_init_413 : decode cX12_init 413 = .ok (.iastore, 1) := by decide +kernel
theorem dX12_init_414 : decode cX12_init 414 = .ok (.dup, 1) := by decide +kernel
theorem dX12_init_415 : decode cX12_init 415 = .ok (.bipush 67, 2) := by decide +kernel
theorem dX12_init_417 : decode cX12_init 417 = .ok (.bipush 32, 2) := by decide +kernel
theorem dX12_init_419 : decode cX12_init 419 = .ok (.iastore, 1) := by decide +kernel
theorem dX12_init_420 : decode cX12_init 420 = .ok (.dup, 1) := by decide +kernel
theorem dX12_init_421 : decode cX12_init 421 = .ok (.bipush 68, 2) := by decide +kernel
theorem dX12_init_423 : decode cX12_init 423 = .ok (.bipush 115, 2) := by decide +kernel
theorem dX12_init_425 : decode cX12_init 425 = .ok (.iastore, 1) := by decide +kernel
theorem dX12_init_426 : decode cX12_init 426 = .ok (.dup, 1) := by decide +kernel
theorem dX12_init_427 : decode cX12_init 427 = .ok (.bipush 69, 2) := by decide +kernel
theorem dX12_init_429 : decode cX12_init 429 = .ok (.bipush 108, 2) := by decide +kernel
theorem dX12_init_431 : decode cX12_init 431 = .ok (.iastore, 1) := by decide +kernel
theorem dX12_init_432 : decode cX12_init 432 = .ok (.dup, 1) := by decide +kernel
theorem dX12_init_433 : decode cX12_init 433 = .ok (.bipush 70, 2) := by decide +kernel
theorem dX12_init_435 : decode cX12_init 435 = .ok (.bipush 111, 2) := by decide +kernel
theorem dX12_init_437 : decode cX12_init 437 = .ok (.iastore, 1) := by decide +kernel
theorem dX12_init_438 : decode cX12_init 438 = .ok (.dup, 1) := by decide +kernel
theorem dX12_init_439 : decode cX12_init 439 = .ok (.bipush 71, 2) := by decide +kernel
theorem dX12_init_441 : decode cX12_init 441 = .ok (.bipush 119, 2) := by decide +kernel
theorem dX12_init_443 : decode cX12_init 443 = .ok (.iastore, 1) := by decide +kernel
theorem dX12_init_444 : decode cX12_init 444 = .ok (.dup, 1) := by decide +kernel
theorem dX12_init_445 : decode cX12_init 445 = .ok (.bipush 72, 2) := by decide +kernel
theorem dX12_init_447 : decode cX12_init 447 = .ok (.bipush 32, 2) := by decide +kernel
theorem dX12_init_449 : decode cX12_init 449 = .ok (.iastore, 1) := by decide +kernel
theorem dX12_init_450 : decode cX12_init 450 = .ok (.dup, 1) := by decide +kernel
theorem dX12_init_451 : decode cX12_init 451 = .ok (.bipush 73, 2) := by decide +kernel
theorem dX12_init_453 : decode cX12_init 453 = .ok (.bipush 112, 2) := by decide +kernel
theorem dX12_init_455 : decode cX12_init 455 = .ok (.iastore, 1) := by decide +kernel
theorem dX12_init_456 : decode cX12_init 456 = .ok (.dup, 1) := by decide +kernel
theorem dX12_init_457 : decode cX12_init 457 = .ok (.bipush 74, 2) := by decide +kernel
theorem dX12_init_459 : decode cX12_init 459 = .ok (.bipush 105, 2) := by decide +kernel
theorem dX12_init_461 : decode cX12_init 461 = .ok (.iastore, 1) := by decide +kernel
theorem dX12_init_462 : decode cX12_init 462 = .ok (.dup, 1) := by decide +kernel
theorem dX12_init_463 : decode cX12_init 463 = .ok (.bipush 75, 2) := by decide +kernel
theorem dX12_init_465 : decode cX12_init 465 = .ok (.bipush 110, 2) := by decide +kernel
theorem dX12_init_467 : decode cX12_init 467 = .ok (.iastore, 1) := by decide +kernel
theorem dX12_init_468 : decode cX12_init 468 = .ok (.dup, 1) := by decide +kernel
theorem dX12_init_469 : decode cX12_init 469 = .ok (.bipush 76, 2) := by decide +kernel
theorem dX12_init_471 : decode cX12_init 471 = .ok (.bipush 115, 2) := by decide +kernel
theorem dX12_init_473 : decode cX12_init 473 = .ok (.iastore, 1) := by decide +kernel
theorem dX12_init_474 : decode cX12_init 474 = .ok (.dup, 1) := by decide +kernel
theorem dX12_init_475 : decode cX12_init 475 = .ok (.bipush 77, 2) := by decide +kernel
theorem dX12_init_477 : decode cX12_init 477 = .ok (.bipush 32, 2) := by decide +kernel
theorem dX12_init_479 : decode cX12_init 479 = .ok (.iastore, 1) := by decide +kernel
theorem dX12_init_480 : decode cX12_init 480 = .ok (.dup, 1) := by decide +kernel
theorem dX12_init_481 : decode cX12_init 481 = .ok (.bipush 78, 2) := by decide +kernel
theorem dX12_init_483 : decode cX12_init 483 = .ok (.bipush 102, 2) := by decide +kernel
theorem dX12_init_485 : decode cX12_init 485 = .ok (.iastore, 1) := by decide +kernel
theorem dX12_init_486 : decode cX12_init 486 = .ok (.dup, 1) := by decide +kernel
theorem dX12_init_487 : decode cX12_init 487 = .ok (.bipush 79, 2) := by decide +kernel
theorem dX12_init_489 : decode cX12_init 489 = .ok (.bipush 97, 2) := by decide +kernel
theorem dX12_init_491 : decode cX12_init 491 = .ok (.iastore, 1) := by decide +kernel
theorem dX12_init_492 : decode cX12_init 492 = .ok (.dup, 1) := by decide +kernel
theorem dX12_init_493 : decode cX12_init 493 = .ok (.bipush 80, 2) := by decide +kernel
theorem dX12_init_495 : decode cX12_init 495 = .ok (.bipush 108, 2) := by decide +kernel
theorem dX12_init_497 : decode cX12_init 497 = .ok (.iastore, 1) := by decide +kernel
theorem dX12_init_498 : decode cX12_init 498 = .ok (.dup, 1) := by decide +kernel
theorem dX12_init_499 : decode cX12_init 499 = .ok (.bipush 81, 2) := by decide +kernel
theorem dX12_init_501 : decode cX12_init 501 = .ok (.bipush 115, 2) := by decide +kernel
theorem dX12_init_503 : decode cX12_init 503 = .ok (.iastore, 1) := by decide +kernel
theorem dX12_init_504 : decode cX12_init 504 = .ok (.dup, 1) := by decide +kernel
theorem dX12_init_505 : decode cX12_init 505 = .ok (.bipush 82, 2) := by decide +kernel
theorem dX12_init_507 : decode cX12_init 507 = .ok (.bipush 101, 2) := by decide +kernel
theorem dX12_init_509 : decode cX12_init 509 = .ok (.iastore, 1) := by decide +kernel
theorem dX12_init_510 : decode cX12_init 510 = .ok (.dup, 1) := by decide +kernel
theorem dX12_init_511 : decode cX12_init 511 = .ok (.bipush 83, 2) := by decide +kernel
theorem dX12_init_513 : decode cX12_init 513 = .ok (.bipush 32, 2) := by decide +kernel
theorem dX12_init_515 : decode cX12_init 515 = .ok (.iastore, 1) := by decide +kernel
theorem dX12_init_516 : decode cX12_init 516 = .ok (.dup, 1) := by decide +kernel
theorem dX12_init_517 : decode cX12_init 517 = .ok (.bipush 84, 2) := by decide +kernel
theorem dX12_init_519 : decode cX12_init 519 = .ok (.bipush 116, 2) := by decide +kernel
theorem dX12_init_521 : decode cX12_init 521 = .ok (.iastore, 1) := by decide +kernel
theorem dX12_init_522 : decode cX12_init 522 = .ok (.dup, 1) := by decide +kernel
theorem dX12_init_523 : decode cX12_init 523 = .ok (.bipush 85, 2) := by decide +kernel
theorem dX12_init_525 : decode cX12_init 525 = .ok (.bipush 101, 2) := by decide +kernel
theorem dX12_init_527 : decode cX12_init 527 = .ok (.iastore, 1) := by decide +kernel
theorem dX12_init_528 : decode cX12_init 528 = .ok (.dup, 1) := by decide +kernel
theorem dX12_init_529 : decode cX12_init 529 = .ok (.bipush 86, 2) := by decide +kernel
theorem dX12_init_531 : decode cX12_init 531 = .ok (.bipush 101, 2) := by decide +kernel
theorem dX12_init_533 : decode cX12_init 533 = .ok (.iastore, 1) := by decide +kernel
theorem dX12_init_534 : decode cX12_init 534 = .ok (.dup, 1) := by decide +kernel
theorem dX12_init_535 : decode cX12_init 535 = .ok (.bipush 87, 2) := by decide +kernel
theorem dX12_init_537 : decode cX12_init 537 = .ok (.bipush 116, 2) := by decide +kernel
theorem dX12_init_539 : decode cX12_init 539 = .ok (.iastore, 1) := by decide +kernel
theorem dX12_init_540 : decode cX12_init 540 = .ok (.dup, 1) := by decide +kernel
theorem dX12_init_541 : decode cX12_init 541 = .ok (.bipush 88, 2) := by decide +kernel
theorem dX12_init_543 : decode cX12_init 543 = .ok (.bipush 104, 2) := by decide +kernel
theorem dX12_init_545 : decode cX12_init 545 = .ok (.iastore, 1) := by decide +kernel
theorem dX12_init_546 : decode cX12_init 546 = .ok (.dup, 1) := by decide +kernel
theorem dX12_init_547 : decode cX12_init 547 = .ok (.bipush 89, 2) := by decide +kernel
theorem dX12_init_549 : decode cX12_init 549 = .ok (.bipush 32, 2) := by decide +kernel
theorem dX12_init_551 : decode cX12_init 551 = .ok (.iastore, 1) := by decide +kernel
theorem dX12_init_552 : decode cX12_init 552 = .ok (.dup, 1) := by decide +kernel
theorem dX12_init_553 : decode cX12_init 553 = .ok (.bipush 90, 2) := by decide +kernel
theorem dX12_init_555 : decode cX12_init 555 = .ok (.bipush 112, 2) := by decide +kernel
theorem dX12_init_557 : decode cX12_init 557 = .ok (.iastore, 1) := by decide +kernel
theorem dX12_init_558 : decode cX12_init 558 = .ok (.dup, 1) := by decide +kernel
theorem dX12_init_559 : decode cX12_init 559 = .ok (.bipush 91, 2) := by decide +kernel
theorem dX12_init_561 : decode cX12_init 561 = .ok (.bipush 108, 2) := by decide +kernel
theorem dX12_init_563 : decode cX12_init 563 = .ok (.iastore, 1) := by decide +kernel
theorem dX12_init_564 : decode cX12_init 564 = .ok (.dup, 1) := by decide +kernel
theorem dX12_init_565 : decode cX12_init 565 = .ok (.bipush 92, 2) := by decide +kernel
theorem dX12_init_567 : decode cX12_init 567 = .ok (.bipush 97, 2) := by decide +kernel
theorem dX12_init_569 : decode cX12_init 569 = .ok (.iastore, 1) := by decide +kernel
theorem dX12_init_570 : decode cX12_init 570 = .ok (.dup, 1) := by decide +kernel
theorem dX12_init_571 : decode cX12_init 571 = .ok (.bipush 93, 2) := by decide +kernel
theorem dX12_init_573 : decode cX12_init 573 = .ok (.bipush 121, 2) := by decide +kernel
theorem dX12_init_575 : decode cX12_init 575 = .ok (.iastore, 1) := by decide +kernel
theorem dX12_init_576 : decode cX12_init 576 = .ok (.dup, 1) := by decide +kernel
theorem dX12_init_577 : decode cX12_init 577 = .ok (.bipush 94, 2) := by decide +kernel
theorem dX12_init_579 : decode cX12_init 579 = .ok (.bipush 115, 2) := by decide +kernel
theorem dX12_init_581 : decode cX12_init 581 = .ok (.iastore, 1) := by decide +kernel
theorem dX12_init_582 : decode cX12_init 582 = .ok (.dup, 1) := by decide +kernel
theorem dX12_init_583 : decode cX12_init 583 = .ok (.bipush 95, 2) := by decide +kernel
theorem dX12_init_585 : decode cX12_init 585 = .ok (.bipush 32, 2) := by decide +kernel
theorem dX12_init_587 : decode cX12_init 587 = .ok (.iastore, 1) := by decide +kernel
theorem dX12_init_588 : decode cX12_init 588 = .ok (.dup, 1) := by decide +kernel
theorem dX12_init_589 : decode cX12_init 589 = .ok (.bipush 96, 2) := by decide +kernel
theorem dX12_init_591 : decode cX12_init 591 = .ok (.bipush 121, 2) := by decide +kernel
theorem dX12_init_593 : decode cX12_init 593 = .ok (.iastore, 1) := by decide +kernel
theorem dX12_init_594 : decode cX12_init 594 = .ok (.dup, 1) := by decide +kernel
theorem dX12_init_595 : decode cX12_init 595 = .ok (.bipush 97, 2) := by decide +kernel
theorem dX12_init_597 : decode cX12_init 597 = .ok (.bipush 101, 2) := by decide +kernel
theorem dX12_init_599 : decode cX12_init 599 = .ok (.iastore, 1) := by decide +kernel
theorem dX12_init_600 : decode cX12_init 600 = .ok (.dup, 1) := by decide +kernel
theorem dX12_init_601 : decode cX12_init 601 = .ok (.bipush 98, 2) := by decide +kernel
theorem dX12_init_603 : decode cX12_init 603 = .ok (.bipush 97, 2) := by decide +kernel
theorem dX12_init_605 : decode cX12_init 605 = .ok (.iastore, 1) := by decide +kernel
theorem dX12_init_606 : decode cX12_init 606 = .ok (.dup, 1) := by decide +kernel
theorem dX12_init_607 : decode cX12_init 607 = .ok (.bipush 99, 2) := by decide +kernel
theorem dX12_init_609 : decode cX12_init 609 = .ok (.bipush 114, 2) := by decide +kernel
theorem dX12_init_611 : decode cX12_init 611 = .ok (.iastore, 1) := by decide +kernel
theorem dX12_init_612 : decode cX12_init 612 = .ok (.dup, 1) := by decide +kernel
theorem dX12_init_613 : decode cX12_init 613 = .ok (.bipush 100, 2) := by decide +kernel
theorem dX12_init_615 : decode cX12_init 615 = .ok (.bipush 32, 2) := by decide +kernel
theorem dX12_init_617 : decode cX12_init 617 = .ok (.iastore, 1) := by decide +kernel
theorem dX12_init_618 : decode cX12_init 618 = .ok (.putfield 13, 3) := by decide +kernel
theorem dX12_init_621 : decode cX12_init 621 = .ok (.aload_n 0, 1) := by decide +kernel
theorem dX12_init_622 : decode cX12_init 622 = .ok (.iconst (-1), 1) := by decide +kernel
theorem dX12_init_623 : decode cX12_init 623 = .ok (.putfield 16, 3) := by decide +kernel
theorem dX12_init_626 : decode cX12_init 626 = .ok (.aload_n 0, 1) := by decide +kernel
theorem dX12_init_627 : decode cX12_init 627 = .ok (.iconst 2, 1) := by decide +kernel
theorem dX12_init_628 : decode cX12_init 628 = .ok (.newarray .boolean, 2) := by decide +kernel
theorem dX12_init_630 : decode cX12_init 630 = .ok (.putfield 20, 3) := by decide +kernel
theorem dX12_init_633 : decode cX12_init 633 = .ok (.aload_n 0, 1) := by decide +kernel
theorem dX12_init_634 : decode cX12_init 634 = .ok (.iconst 4, 1) := by decide +kernel
theorem dX12_init_635 : decode cX12_init 635 = .ok (.newarray .int, 2) := by decide +kernel
theorem dX12_init_637 : decode cX12_init 637 = .ok (.putfield 24, 3) := by decide +kernel
theorem dX12_init_640 : decode cX12_init 640 = .ok (.aload_n 0, 1) := by decide +kernel
theorem dX12_init_641 : decode cX12_init 641 = .ok (.bipush 12, 2) := by decide +kernel
theorem dX12_init_643 : decode cX12_init 643 = .ok (.newarray .int, 2) := by decide +kernel
theorem dX12_init_645 : decode cX12_init 645 = .ok (.putfield 27, 3) := by decide +kernel
theorem dX12_init_648 : decode cX12_init 648 = .ok (.aload_n 0, 1) := by decide +kernel
theorem dX12_init_649 : decode cX12_init 649 = .ok (.bipush 12, 2) := by decide +kernel
theorem dX12_init_651 : decode cX12_init 651 = .ok (.newarray .int, 2) := by decide +kernel
theorem dX12_init_653 : decode cX12_init 653 = .ok (.putfield 30, 3) := by decide +kernel
theorem dX12_init_656 : decode cX12_init 656 = .ok (.aload_n 0, 1) := by decide +kernel
theorem dX12_init_657 : decode cX12_init 657 = .ok (.bipush 12, 2) := by decide +kernel
theorem dX12_init_659 : decode cX12_init 659 = .ok (.newarray .int, 2) := by decide +kernel
theorem dX12_init_661 : decode cX12_init 661 = .ok (.putfield 33, 3) := by decide +kernel
theorem dX12_init_664 : decode cX12_init 664 = .ok (.aload_n 0, 1) := by decide +kernel
theorem dX12_init_665 : decode cX12_init 665 = .ok (.bipush 96, 2) := by decide +kernel
theorem dX12_init_667 : decode cX12_init 667 = .ok (.newarray .int, 2) := by decide +kernel
theorem dX12_init_669 : decode cX12_init 669 = .ok (.putfield 36, 3) := by decide +kernel
theorem dX12_init_672 : decode cX12_init 672 = .ok (.aload_n 0, 1) := by decide +kernel
theorem dX12_init_673 : decode cX12_init 673 = .ok (.bipush 12, 2) := by decide +kernel
theorem dX12_init_675 : decode cX12_init 675 = .ok (.newarray .int, 2) := by decide +kernel
theorem dX12_init_677 : decode cX12_init 677 = .ok (.putfield 39, 3) := by decide +kernel
theorem dX12_init_680 : decode cX12_init 680 = .ok (.aload_n 0, 1) := by decide +kernel
theorem dX12_init_681 : decode cX12_init 681 = .ok (.bipush 12, 2) := by decide +kernel
theorem dX12_init_683 : decode cX12_init 683 = .ok (.newarray .int, 2) := by decide +kernel
theorem dX12_init_685 : decode cX12_init 685 = .ok (.putfield 42, 3) := by decide +kernel
theorem dX12_init_688 : decode cX12_init 688 = .ok (.aload_n 0, 1) := by decide +kernel
theorem dX12_init_689 : decode cX12_init 689 = .ok (.bipush 10, 2) := by decide +kernel
theorem dX12_init_691 : decode cX12_init 691 = .ok (.newarray .int, 2) := by decide +kernel
theorem dX12_init_693 : decode cX12_init 693 = .ok (.putfield 45, 3) := by decide +kernel
theorem dX12_init_696 : decode cX12_init 696 = .ok (.aload_n 0, 1) := by decide +kernel
theorem dX12_init_697 : decode cX12_init 697 = .ok (.bipush 10, 2) := by decide +kernel
theorem dX12_init_699 : decode cX12_init 699 = .ok (.newarray .int, 2) := by decide +kernel
theorem dX12_init_701 : decode cX12_init 701 = .ok (.putfield 48, 3) := by decide +kernel
theorem dX12_init_704 : decode cX12_init 704 = .ok (.aload_n 0, 1) := by decide +kernel
theorem dX12_init_705 : decode cX12_init 705 = .ok (.bipush 10, 2) := by decide +kernel
theorem dX12_init_707 : decode cX12_init 707 = .ok (.newarray .int, 2) := by decide +kernel
theorem dX12_init_709 : decode cX12_init 709 = .ok (.putfield 51, 3) := by decide +kernel
theorem dX12_init_712 : decode cX12_init 712 = .ok (.aload_n 0, 1) := by decide +kernel
theorem dX12_init_713 : decode cX12_init 713 = .ok (.bipush 6, 2) := by decide +kernel
theorem dX12_init_715 : decode cX12_init 715 = .ok (.newarray .boolean, 2) := by decide +kernel
theorem dX12_init_717 : decode cX12_init 717 = .ok (.putfield 54, 3) := by decide +kernel
theorem dX12_init_720 : decode cX12_init 720 = .ok (.aload_n 0, 1) := by decide +kernel
theorem dX12_init_721 : decode cX12_init 721 = .ok (.bipush 6, 2) := by decide +kernel
theorem dX12_init_723 : decode cX12_init 723 = .ok (.newarray .int, 2) := by decide +kernel
theorem dX12_init_725 : decode cX12_init 725 = .ok (.putfield 57, 3) := by decide +kernel
theorem dX12_init_728 : decode cX12_init 728 = .ok (.aload_n 0, 1) := by decide +kernel
theorem dX12_init_729 : decode cX12_init 729 = .ok (.bipush 6, 2) := by decide +kernel
theorem dX12_init_731 : decode cX12_init 731 = .ok (.newarray .int, 2) := by decide +kernel
theorem dX12_init_733 : decode cX12_init 733 = .ok (.putfield 60, 3) := by decide +kernel
theorem dX12_init_736 : decode cX12_init 736 = .ok (.aload_n 0, 1) := by decide +kernel
theorem dX12_init_737 : decode cX12_init 737 = .ok (.sipush 128, 3) := by decide +kernel
theorem dX12_init_740 : decode cX12_init 740 = .ok (.newarray .int, 2) := by decide +kernel
theorem dX12_init_742 : decode cX12_init 742 = .ok (.putfield 63, 3) := by decide +kernel
theorem dX12_init_745 : decode cX12_init 745 = .ok (.aload_n 0, 1) := by decide +kernel
theorem dX12_init_746 : decode cX12_init 746 = .ok (.sipush 128, 3) := by decide +kernel
theorem dX12_init_749 : decode cX12_init 749 = .ok (.newarray .int, 2) := by decide +kernel
theorem dX12_init_751 : decode cX12_init 751 = .ok (.putfield 66, 3) := by decide +kernel
theorem dX12_init_754 : decode cX12_init 754 = .ok (.aload_n 0, 1) := by decide +kernel
theorem dX12_init_755 : decode cX12_init 755 = .ok (.sipush 128, 3) := by decide +kernel
theorem dX12_init_758 : decode cX12_init 758 = .ok (.newarray .int, 2) := by decide +kernel
theorem dX12_init_760 : decode cX12_init 760 = .ok (.putfield 69, 3) := by decide +kernel
theorem dX12_init_763 : decode cX12_init 763 = .ok (.aload_n 0, 1) := by decide +kernel
theorem dX12_init_764 : decode cX12_init 764 = .ok (.bipush 96, 2) := by decide +kernel
theorem dX12_init_766 : decode cX12_init 766 = .ok (.newarray .int, 2) := by decide +kernel
theorem dX12_init_768 : decode cX12_init 768 = .ok (.putfield 72, 3) := by decide +kernel
theorem dX12_init_771 : decode cX12_init 771 = .ok (.aload_n 0, 1) := by decide +kernel
theorem dX12_init_772 : decode cX12_init 772 = .ok (.bipush 96, 2) := by decide +kernel
theorem dX12_init_774 : decode cX12_init 774 = .ok (.newarray .int, 2) := by decide +kernel
theorem dX12_init_776 : decode cX12_init 776 = .ok (.putfield 75, 3) := by decide +kernel
theorem dX12_init_779 : decode cX12_init 779 = .ok (.aload_n 0, 1) := by decide +kernel
theorem dX12_init_780 : decode cX12_init 780 = .ok (.bipush 7, 2) := by decide +kernel
theorem dX12_init_782 : decode cX12_init 782 = .ok (.newarray .long, 2) := by decide +kernel
theorem dX12_init_784 : decode cX12_init 784 = .ok (.putfield 78, 3) := by decide +kernel
theorem dX12_init_787 : decode cX12_init 787 = .ok (.aload_n 0, 1) := by decide +kernel
theorem dX12_init_788 : decode cX12_init 788 = .ok (.bipush 64, 2) := by decide +kernel
theorem dX12_init_790 : decode cX12_init 790 = .ok (.newarray .long, 2) := by decide +kernel
theorem dX12_init_792 : decode cX12_init 792 = .ok (.putfield 82, 3) := by decide +kernel
theorem dX12_init_795 : decode cX12_init 795 = .ok (.aload_n 0, 1) := by decide +kernel
theorem dX12_init_796 : decode cX12_init 796 = .ok (.bipush 12, 2) := by decide +kernel
theorem dX12_init_798 : decode cX12_init 798 = .ok (.newarray .int, 2) := by decide +kernel
theorem dX12_init_800 : decode cX12_init 800 = .ok (.putfield 85, 3) := by decide +kernel
theorem dX12_init_803 : decode cX12_init 803 = .ok (.aload_n 0, 1) := by decide +kernel
theorem dX12_init_804 : decode cX12_init 804 = .ok (.bipush 12, 2) := by decide +kernel
theorem dX12_init_806 : decode cX12_init 806 = .ok (.newarray .int, 2) := by decide +kernel
theorem dX12_init_808 : decode cX12_init 808 = .ok (.putfield 88, 3) := by decide +kernel
theorem dX12_init_811 : decode cX12_init 811 = .ok (.aload_n 0, 1) := by decide +kernel
theorem dX12_init_812 : decode cX12_init 812 = .ok (.bipush 12, 2) := by decide +kernel
theorem dX12_init_814 : decode cX12_init 814 = .ok (.newarray .int, 2) := by decide +kernel
theorem dX12_init_816 : decode cX12_init 816 = .ok (.putfield 91, 3) := by decide +kernel
theorem dX12_init_819 : decode cX12_init 819 = .ok (.aload_n 0, 1) := by decide +kernel
theorem dX12_init_820 : decode cX12_init 820 = .ok (.bipush 12, 2) := by decide +kernel
theorem dX12_init_822 : decode cX12_init 822 = .ok (.newarray .int, 2) := by decide +kernel
theorem dX12_init_824 : decode cX12_init 824 = .ok (.putfield 94, 3) := by decide +kernel
theorem dX12_init_827 : decode cX12_init 827 = .ok (.aload_n 0, 1) := by decide +kernel
theorem dX12_init_828 : decode cX12_init 828 = .ok (.bipush 12, 2) := by decide +kernel
theorem dX12_init_830 : decode cX12_init 830 = .ok (.newarray .boolean, 2) := by decide +kernel
theorem dX12_init_832 : decode cX12_init 832 = .ok (.putfield 97, 3) := by decide +kernel
theorem dX12_init_835 : decode cX12_init 835 = .ok (.aload_n 0, 1) := by decide +kernel
theorem dX12_init_836 : decode cX12_init 836 = .ok (.bipush 12, 2) := by decide +kernel
theorem dX12_init_838 : decode cX12_init 838 = .ok (.newarray .int, 2) := by decide +kernel
theorem dX12_init_840 : decode cX12_init 840 = .ok (.putfield 100, 3) := by decide +kernel
theorem dX12_init_843 : decode cX12_init 843 = .ok (.aload_n 0, 1) := by decide +kernel
theorem dX12_init_844 : decode cX12_init 844 = .ok (.iconst 2, 1) := by decide +kernel
theorem dX12_init_845 : decode cX12_init 845 = .ok (.newarray .int, 2) := by decide +kernel
theorem dX12_init_847 : decode cX12_init 847 = .ok (.putfield 103, 3) := by decide +kernel
theorem dX12_init_850 : decode cX12_init 850 = .ok (.aload_n 0, 1) := by decide +kernel
theorem dX12_init_851 : decode cX12_init 851 = .ok (.iconst 2, 1) := by decide +kernel
theorem dX12_init_852 : decode cX12_init 852 = .ok (.newarray .int, 2) := by decide +kernel
theorem dX12_init_854 : decode cX12_init 854 = .ok (.putfield 106, 3) := by decide +kernel
theorem dX12_init_857 : decode cX12_init 857 = .ok (.aload_n 0, 1) := by decide +kernel
theorem dX12_init_858 : decode cX12_init 858 = .ok (.bipush 6, 2) := by decide +kernel
theorem dX12_init_860 : decode cX12_init 860 = .ok (.newarray .int, 2) := by decide +kernel
theorem dX12_init_862 : decode cX12_init 862 = .ok (.putfield 109, 3) := by decide +kernel
theorem dX12_init_865 : decode cX12_init 865 = .ok (.aload_n 0, 1) := by decide +kernel
theorem dX12_init_866 : decode cX12_init 866 = .ok (.bipush 36, 2) := by decide +kernel
theorem dX12_init_868 : decode cX12_init 868 = .ok (.newarray .int, 2) := by decide +kernel
theorem dX12_init_870 : decode cX12_init 870 = .ok (.putfield 112, 3) := by decide +kernel
theorem dX12_init_873 : decode cX12_init 873 = .ok (.aload_n 0, 1) := by decide +kernel
theorem dX12_init_874 : decode cX12_init 874 = .ok (.iconst (-1), 1) := by decide +kernel
theorem dX12_init_875 : decode cX12_init 875 = .ok (.putfield 115, 3) := by decide +kernel
theorem dX12_init_878 : decode cX12_init 878 = .ok (.aload_n 0, 1) := by decide +kernel
theorem dX12_init_879 : decode cX12_init 879 = .ok (.bipush 72, 2) := by decide +kernel
theorem dX12_init_881 : decode cX12_init 881 = .ok (.newarray .int, 2) := by decide +kernel
theorem dX12_init_883 : decode cX12_init 883 = .ok (.putfield 118, 3) := by decide +kernel
theorem dX12_init_886 : decode cX12_init 886 = .ok (.aload_n 0, 1) := by decide +kernel
theorem dX12_init_887 : decode cX12_init 887 = .ok (.bipush 24, 2) := by decide +kernel
theorem dX12_init_889 : decode cX12_init 889 = .ok (.newarray .boolean, 2) := by decide +kernel
theorem dX12_init_891 : decode cX12_init 891 = .ok (.putfield 121, 3) := by decide +kernel
theorem dX12_init_894 : decode cX12_init 894 = .ok (.aload_n 0, 1) := by decide +kernel
theorem dX12_init_895 : decode cX12_init 895 = .ok (.sipush 360, 3) := by decide +kernel
theorem dX12_init_898 : decode cX12_init 898 = .ok (.newarray .int, 2) := by decide +kernel
theorem dX12_init_900 : decode cX12_init 900 = .ok (.putfield 124, 3) := by decide +kernel
theorem dX12_init_903 : decode cX12_init 903 = .ok (.aload_n 0, 1) := by decide +kernel
theorem dX12_init_904 : decode cX12_init 904 = .ok (.bipush 18, 2) := by decide +kernel
theorem dX12_init_906 : decode cX12_init 906 = .ok (.newarray .int, 2) := by decide +kernel
theorem dX12_init_908 : decode cX12_init 908 = .ok (.putfield 127, 3) := by decide +kernel
theorem dX12_init_911 : decode cX12_init 911 = .ok (.aload_n 0, 1) := by decide +kernel
theorem dX12_init_912 : decode cX12_init 912 = .ok (.bipush 20, 2) := by decide +kernel
theorem dX12_init_914 : decode cX12_init 914 = .ok (.newarray .int, 2) := by decide +kernel
theorem dX12_init_916 : decode cX12_init 916 = .ok (.putfield 130, 3) := by decide +kernel
theorem dX12_init_919 : decode cX12_init 919 = .ok (.aload_n 0, 1) := by decide +kernel
theorem dX12_init_920 : decode cX12_init 920 = .ok (.invokevirtual 133, 3) := by decide +kernel
theorem dX12_init_923 : decode cX12_init 923 = .ok (.aload_n 0, 1) := by decide +kernel
theorem dX12_init_924 : decode cX12_init 924 = .ok (.invokevirtual 136, 3) := by decide +kernel
theorem dX12_init_927 : decode cX12_init 927 = .ok (.return_, 1) := by decide +kernel
theorem dX12_thrown_0 : decode cX12_thrown 0 = .ok (.aload_n 0, 1) := by decide +kernel
theorem dX12_thrown_1 : decode cX12_thrown 1 = .ok (.getfield 139, 3) := by decide +kernel
theorem dX12_thrown_4 : decode cX12_thrown 4 = .ok (.ireturn, 1) := by decide +kernel
theorem dX12_feed_0 : decode cX12_feed 0 = .ok (.aload_n 0, 1) := by decide +kernel
theorem dX12_feed_1 : decode cX12_feed 1 = .ok (.iconst 0, 1) := by decide +kernel
theorem dX12_feed_2 : decode cX12_feed 2 = .ok (.putfield 139, 3) := by decide +kernel
theorem dX12_feed_5 : decode cX12_feed 5 = .ok (.aload_n 0, 1) := by decide +kernel
theorem dX12_feed_6 : decode cX12_feed 6 = .ok (.getfield 142, 3) := by decide +kernel
theorem dX12_feed_9 : decode cX12_feed 9 = .ok (.bipush 20, 2) := by decide +kernel
theorem dX12_feed_11 : decode cX12_feed 11 = .ok (.iadd, 1) := by decide +kernel
theorem dX12_feed_12 : decode cX12_feed 12 = .ok (.sipush 700, 3) := by decide +kernel
theorem dX12_feed_15 : decode cX12_feed 15 = .ok (.if_icmp .le 5, 3) := by decide +kernel
theorem dX12_feed_18 : decode cX12_feed 18 = .ok (.iconst (-1), 1) := by decide +kernel
theorem dX12_feed_19 : decode cX12_feed 19 = .ok (.ireturn, 1) := by decide +kernel
theorem dX12_feed_20 : decode cX12_feed 20 = .ok (.iconst 0, 1) := by decide +kernel
theorem dX12_feed_21 : decode cX12_feed 21 = .ok (.istore 6, 2) := by decide +kernel
theorem dX12_feed_23 : decode cX12_feed 23 = .ok (.iload 6, 2) := by decide +kernel
theorem dX12_feed_25 : decode cX12_feed 25 = .ok (.bipush 20, 2) := by decide +kernel
theorem dX12_feed_27 : decode cX12_feed 27 = .ok (.if_icmp .ge 86, 3) := by decide +kernel
theorem dX12_feed_30 : decode cX12_feed 30 = .ok (.iload 6, 2) := by decide +kernel
theorem dX12_feed_32 : decode cX12_feed 32 = .ok (.iconst 4, 1) := by decide +kernel
theorem dX12_feed_33 : decode cX12_feed 33 = .ok (.if_icmp .ge 7, 3) := by decide +kernel
theorem dX12_feed_36 : decode cX12_feed 36 = .ok (.iload_n 1, 1) := by decide +kernel
theorem dX12_feed_37 : decode cX12_feed 37 = .ok (.goto 39, 3) := by decide +kernel
theorem dX12_feed_40 : decode cX12_feed 40 = .ok (.iload 6, 2) := by decide +kernel
theorem dX12_feed_42 : decode cX12_feed 42 = .ok (.bipush 8, 2) := by decide +kernel
theorem dX12_feed_44 : decode cX12_feed 44 = .ok (.if_icmp .ge 7, 3) := by decide +kernel
theorem dX12_feed_47 : decode cX12_feed 47 = .ok (.iload_n 2, 1) := by decide +kernel
theorem dX12_feed_48 : decode cX12_feed 48 = .ok (.goto 28, 3) := by decide +kernel
theorem dX12_feed_51 : decode cX12_feed 51 = .ok (.iload 6, 2) := by decide +kernel
theorem dX12_feed_53 : decode cX12_feed 53 = .ok (.bipush 12, 2) := by decide +kernel
theorem dX12_feed_55 : decode cX12_feed 55 = .ok (.if_icmp .ge 7, 3) := by decide +kernel
theorem dX12_feed_58 : decode cX12_feed 58 = .ok (.iload_n 3, 1) := by decide +kernel
theorem dX12_feed_59 : decode cX12_feed 59 = .ok (.goto 17, 3) := by decide +kernel
theorem dX12_feed_62 : decode cX12_feed 62 = .ok (.iload 6, 2) := by decide +kernel
theorem dX12_feed_64 : decode cX12_feed 64 = .ok (.bipush 16, 2) := by decide +kernel
theorem dX12_feed_66 : decode cX12_feed 66 = .ok (.if_icmp .ge 8, 3) := by decide +kernel
theorem dX12_feed_69 : decode cX12_feed 69 = .ok (.iload 4, 2) := by decide +kernel
theorem dX12_feed_71 : decode cX12_feed 71 = .ok (.goto 5, 3) := by decide +kernel
theorem dX12_feed_74 : decode cX12_feed 74 = .ok (.iload 5, 2) := by decide +kernel
theorem dX12_feed_76 : decode cX12_feed 76 = .ok (.istore 7, 2) := by decide +kernel
theorem dX12_feed_78 : decode cX12_feed 78 = .ok (.aload_n 0, 1) := by decide +kernel
theorem dX12_feed_79 : decode cX12_feed 79 = .ok (.getfield 7, 3) := by decide +kernel
theorem dX12_feed_82 : decode cX12_feed 82 = .ok (.aload_n 0, 1) := by decide +kernel
theorem dX12_feed_83 : decode cX12_feed 83 = .ok (.getfield 142, 3) := by decide +kernel
theorem dX12_feed_86 : decode cX12_feed 86 = .ok (.iload 6, 2) := by decide +kernel
theorem dX12_feed_88 : decode cX12_feed 88 = .ok (.iadd, 1) := by decide +kernel
theorem dX12_feed_89 : decode cX12_feed 89 = .ok (.iload 7, 2) := by decide +kernel
theorem dX12_feed_91 : decode cX12_feed 91 = .ok (.bipush 24, 2) := by decide +kernel
theorem dX12_feed_93 : decode cX12_feed 93 = .ok (.bipush 8, 2) := by decide +kernel
theorem dX12_feed_95 : decode cX12_feed 95 = .ok (.iload 6, 2) := by decide +kernel
theorem dX12_feed_97 : decode cX12_feed 97 = .ok (.iconst 4, 1) := by decide +kernel
theorem dX12_feed_98 : decode cX12_feed 98 = .ok (.irem, 1) := by decide +kernel
theorem dX12_feed_99 : decode cX12_feed 99 = .ok (.imul, 1) := by decide +kernel
theorem dX12_feed_100 : decode cX12_feed 100 = .ok (.isub, 1) := by decide +kernel
theorem dX12_feed_101 : decode cX12_feed 101 = .ok (.ishr, 1) := by decide +kernel
theorem dX12_feed_102 : decode cX12_feed 102 = .ok (.sipush 255, 3) := by decide +kernel
theorem dX12_feed_105 : decode cX12_feed 105 = .ok (.iand, 1) := by decide +kernel
theorem dX12_feed_106 : decode cX12_feed 106 = .ok (.iastore, 1) := by decide +kernel
theorem dX12_feed_107 : decode cX12_feed 107 = .ok (.iinc 6 1, 3) := by decide +kernel
theorem dX12_feed_110 : decode cX12_feed 110 = .ok (.goto (-87), 3) := by decide +kernel
theorem dX12_feed_113 : decode cX12_feed 113 = .ok (.aload_n 0, 1) := by decide +kernel
theorem dX12_feed_114 : decode cX12_feed 114 = .ok (.dup, 1) := by decide +kernel
theorem dX12_feed_115 : decode cX12_feed 115 = .ok (.getfield 142, 3) := by decide +kernel
theorem dX12_feed_118 : decode cX12_feed 118 = .ok (.bipush 20, 2) := by decide +kernel
theorem dX12_feed_120 : decode cX12_feed 120 = .ok (.iadd, 1) := by decide +kernel
theorem dX12_feed_121 : decode cX12_feed 121 = .ok (.putfield 142, 3) := by decide +kernel
theorem dX12_feed_124 : decode cX12_feed 124 = .ok (.aload_n 0, 1) := by decide +kernel
theorem dX12_feed_125 : decode cX12_feed 125 = .ok (.getfield 142, 3) := by decide +kernel
theorem dX12_feed_128 : decode cX12_feed 128 = .ok (.ireturn, 1) := by decide +kernel
theorem dX12_isIn_0 : decode cX12_isIn 0 = .ok (.iload_n 0, 1) := by decide +kernel
theorem dX12_isIn_1 : decode cX12_isIn 1 = .ok (.iload_n 1, 1) := by decide +kernel
theorem dX12_isIn_2 : decode cX12_isIn 2 = .ok (.if_icmp .lt 12, 3) := by decide +kernel
theorem dX12_isIn_5 : decode cX12_isIn 5 = .ok (.iload_n 0, 1) := by decide +kernel
theorem dX12_isIn_6 : decode cX12_isIn 6 = .ok (.iload_n 2, 1) := by decide +kernel
theorem dX12_isIn_7 : decode cX12_isIn 7 = .ok (.if_icmp .gt 7, 3) := by decide +kernel
theorem dX12_isIn_10 : decode cX12_isIn 10 = .ok (.iconst 1, 1) := by decide +kernel
theorem dX12_isIn_11 : decode cX12_isIn 11 = .ok (.goto 4, 3) := by decide +kernel
theorem dX12_isIn_14 : decode cX12_isIn 14 = .ok (.iconst 0, 1) := by decide +kernel
theorem dX12_isIn_15 : decode cX12_isIn 15 = .ok (.ireturn, 1) := by decide +kernel
theorem dX12_isOf_0 : decode cX12_isOf 0 = .ok (.iload_n 0, 1) := by decide +kernel
theorem dX12_isOf_1 : decode cX12_isOf 1 = .ok (.iload_n 1, 1) := by decide +kernel
theorem dX12_isOf_2 : decode cX12_isOf 2 = .ok (.ishr, 1) := by decide +kernel
theorem dX12_isOf_3 : decode cX12_isOf 3 = .ok (.iconst 1, 1) := by decide +kernel
theorem dX12_isOf_4 : decode cX12_isOf 4 = .ok (.iand, 1) := by decide +kernel
theorem dX12_isOf_5 : decode cX12_isOf 5 = .ok (.iconst 1, 1) := by decide +kernel
theorem dX12_isOf_6 : decode cX12_isOf 6 = .ok (.if_icmp .ne 7, 3) := by decide +kernel
theorem dX12_isOf_9 : decode cX12_isOf 9 = .ok (.iconst 1, 1) := by decide +kernel
theorem dX12_isOf_10 : decode cX12_isOf 10 = .ok (.goto 4, 3) := by decide +kernel
theorem dX12_isOf_13 : decode cX12_isOf 13 = .ok (.iconst 0, 1) := by decide +kernel
theorem dX12_isOf_14 : decode cX12_isOf 14 = .ok (.ireturn, 1) := by decide +kernel
theorem dX12_wrong_0 : decode cX12_wrong 0 = .ok (.aload_n 0, 1) := by decide +kernel
theorem dX12_wrong_1 : decode cX12_wrong 1 = .ok (.iload_n 1, 1) := by decide +kernel
theorem dX12_wrong_2 : decode cX12_wrong 2 = .ok (.putfield 145, 3) := by decide +kernel
theorem dX12_wrong_5 : decode cX12_wrong 5 = .ok (.aload_n 0, 1) := by decide +kernel
theorem dX12_wrong_6 : decode cX12_wrong 6 = .ok (.aload_n 0, 1) := by decide +kernel
theorem dX12_wrong_7 : decode cX12_wrong 7 = .ok (.getfield 148, 3) := by decide +kernel
theorem dX12_wrong_10 : decode cX12_wrong 10 = .ok (.putfield 16, 3) := by decide +kernel
theorem dX12_wrong_13 : decode cX12_wrong 13 = .ok (.iconst 0, 1) := by decide +kernel
theorem dX12_wrong_14 : decode cX12_wrong 14 = .ok (.ireturn, 1) := by decide +kernel
theorem dX12_wordAt_0 : decode cX12_wordAt 0 = .ok (.iconst 0, 1) := by decide +kernel
theorem dX12_wordAt_1 : decode cX12_wordAt 1 = .ok (.istore_n 3, 1) := by decide +kernel
theorem dX12_wordAt_2 : decode cX12_wordAt 2 = .ok (.iconst 0, 1) := by decide +kernel
theorem dX12_wordAt_3 : decode cX12_wordAt 3 = .ok (.istore 4, 2) := by decide +kernel
theorem dX12_wordAt_5 : decode cX12_wordAt 5 = .ok (.iload 4, 2) := by decide +kernel
theorem dX12_wordAt_7 : decode cX12_wordAt 7 = .ok (.aload_n 0, 1) := by decide +kernel
theorem dX12_wordAt_8 : decode cX12_wordAt 8 = .ok (.getfield 13, 3) := by decide +kernel
theorem dX12_wordAt_11 : decode cX12_wordAt 11 = .ok (.arraylength, 1) := by decide +kernel
theorem dX12_wordAt_12 : decode cX12_wordAt 12 = .ok (.if_icmp .ge 114, 3) := by decide +kernel
theorem dX12_wordAt_15 : decode cX12_wordAt 15 = .ok (.iconst 0, 1) := by decide +kernel
theorem dX12_wordAt_16 : decode cX12_wordAt 16 = .ok (.istore 5, 2) := by decide +kernel
theorem dX12_wordAt_18 : decode cX12_wordAt 18 = .ok (.aload_n 0, 1) := by decide +kernel
theorem dX12_wordAt_19 : decode cX12_wordAt 19 = .ok (.getfield 13, 3) := by decide +kernel
theorem dX12_wordAt_22 : decode cX12_wordAt 22 = .ok (.iload 4, 2) := by decide +kernel
theorem dX12_wordAt_24 : decode cX12_wordAt 24 = .ok (.iload 5, 2) := by decide +kernel
theorem dX12_wordAt_26 : decode cX12_wordAt 26 = .ok (.iadd, 1) := by decide +kernel
theorem dX12_wordAt_27 : decode cX12_wordAt 27 = .ok (.iaload, 1) := by decide +kernel
theorem dX12_wordAt_28 : decode cX12_wordAt 28 = .ok (.bipush 32, 2) := by decide +kernel
theorem dX12_wordAt_30 : decode cX12_wordAt 30 = .ok (.if_icmp .eq 9, 3) := by decide +kernel
theorem dX12_wordAt_33 : decode cX12_wordAt 33 = .ok (.iinc 5 1, 3) := by decide +kernel
theorem dX12_wordAt_36 : decode cX12_wordAt 36 = .ok (.goto (-18), 3) := by decide +kernel
theorem dX12_wordAt_39 : decode cX12_wordAt 39 = .ok (.iload 5, 2) := by decide +kernel
theorem dX12_wordAt_41 : decode cX12_wordAt 41 = .ok (.iload_n 2, 1) := by decide +kernel
theorem dX12_wordAt_42 : decode cX12_wordAt 42 = .ok (.iload_n 1, 1) := by decide +kernel
theorem dX12_wordAt_43 : decode cX12_wordAt 43 = .ok (.isub, 1) := by decide +kernel
theorem dX12_wordAt_44 : decode cX12_wordAt 44 = .ok (.if_icmp .ne 7, 3) := by decide +kernel
theorem dX12_wordAt_47 : decode cX12_wordAt 47 = .ok (.iconst 1, 1) := by decide +kernel
theorem dX12_wordAt_48 : decode cX12_wordAt 48 = .ok (.goto 4, 3) := by decide +kernel
theorem dX12_wordAt_51 : decode cX12_wordAt 51 = .ok (.iconst 0, 1) := by decide +kernel
theorem dX12_wordAt_52 : decode cX12_wordAt 52 = .ok (.istore 6, 2) := by decide +kernel
theorem dX12_wordAt_54 : decode cX12_wordAt 54 = .ok (.iconst 0, 1) := by decide +kernel
theorem dX12_wordAt_55 : decode cX12_wordAt 55 = .ok (.istore 7, 2) := by decide +kernel
theorem dX12_wordAt_57 : decode cX12_wordAt 57 = .ok (.iload 7, 2) := by decide +kernel
theorem dX12_wordAt_59 : decode cX12_wordAt 59 = .ok (.iload 5, 2) := by decide +kernel
theorem dX12_wordAt_61 : decode cX12_wordAt 61 = .ok (.if_icmp .ge 43, 3) := by decide +kernel
theorem dX12_wordAt_64 : decode cX12_wordAt 64 = .ok (.iload 6, 2) := by decide +kernel
theorem dX12_wordAt_66 : decode cX12_wordAt 66 = .ok (.ifCond .eq 38, 3) := by decide +kernel
theorem dX12_wordAt_69 : decode cX12_wordAt 69 = .ok (.aload_n 0, 1) := by decide +kernel
theorem dX12_wordAt_70 : decode cX12_wordAt 70 = .ok (.getfield 13, 3) := by decide +kernel
theorem dX12_wordAt_73 : decode cX12_wordAt 73 = .ok (.iload 4, 2) := by decide +kernel
theorem dX12_wordAt_75 : decode cX12_wordAt 75 = .ok (.iload 7, 2) := by decide +kernel
theorem dX12_wordAt_77 : decode cX12_wordAt 77 = .ok (.iadd, 1) := by decide +kernel
theorem dX12_wordAt_78 : decode cX12_wordAt 78 = .ok (.iaload, 1) := by decide +kernel
theorem dX12_wordAt_79 : decode cX12_wordAt 79 = .ok (.aload_n 0, 1) := by decide +kernel
theorem dX12_wordAt_80 : decode cX12_wordAt 80 = .ok (.getfield 7, 3) := by decide +kernel
theorem dX12_wordAt_83 : decode cX12_wordAt 83 = .ok (.iload_n 1, 1) := by decide +kernel
theorem dX12_wordAt_84 : decode cX12_wordAt 84 = .ok (.iload 7, 2) := by decide +kernel
theorem dX12_wordAt_86 : decode cX12_wordAt 86 = .ok (.iadd, 1) := by decide +kernel
theorem dX12_wordAt_87 : decode cX12_wordAt 87 = .ok (.iaload, 1) := by decide +kernel
theorem dX12_wordAt_88 : decode cX12_wordAt 88 = .ok (.if_icmp .ne 7, 3) := by decide +kernel
theorem dX12_wordAt_91 : decode cX12_wordAt 91 = .ok (.iconst 1, 1) := by decide +kernel
theorem dX12_wordAt_92 : decode cX12_wordAt 92 = .ok (.goto 4, 3) := by decide +kernel
theorem dX12_wordAt_95 : decode cX12_wordAt 95 = .ok (.iconst 0, 1) := by decide +kernel
theorem dX12_wordAt_96 : decode cX12_wordAt 96 = .ok (.istore 6, 2) := by decide +kernel
theorem dX12_wordAt_98 : decode cX12_wordAt 98 = .ok (.iinc 7 1, 3) := by decide +kernel
theorem dX12_wordAt_101 : decode cX12_wordAt 101 = .ok (.goto (-44), 3) := by decide +kernel
theorem dX12_wordAt_104 : decode cX12_wordAt 104 = .ok (.iload 6, 2) := by decide +kernel
theorem dX12_wordAt_106 : decode cX12_wordAt 106 = .ok (.ifCond .eq 5, 3) := by decide +kernel
theorem dX12_wordAt_109 : decode cX12_wordAt 109 = .ok (.iload_n 3, 1) := by decide +kernel
theorem dX12_wordAt_110 : decode cX12_wordAt 110 = .ok (.ireturn, 1) := by decide +kernel
theorem dX12_wordAt_111 : decode cX12_wordAt 111 = .ok (.iload 4, 2) := by decide +kernel
theorem dX12_wordAt_113 : decode cX12_wordAt 113 = .ok (.iload 5, 2) := by decide +kernel
theorem dX12_wordAt_115 : decode cX12_wordAt 115 = .ok (.iconst 1, 1) := by decide +kernel
theorem dX12_wordAt_116 : decode cX12_wordAt 116 = .ok (.iadd, 1) := by decide +kernel
theorem dX12_wordAt_117 : decode cX12_wordAt 117 = .ok (.iadd, 1) := by decide +kernel
theorem dX12_wordAt_118 : decode cX12_wordAt 118 = .ok (.istore 4, 2) := by decide +kernel
theorem dX12_wordAt_120 : decode cX12_wordAt 120 = .ok (.iinc 3 1, 3) := by decide +kernel
theorem dX12_wordAt_123 : decode cX12_wordAt 123 = .ok (.goto (-118), 3) := by decide +kernel
theorem dX12_wordAt_126 : decode cX12_wordAt 126 = .ok (.iconst (-1), 1) := by decide +kernel
theorem dX12_wordAt_127 : decode cX12_wordAt 127 = .ok (.ireturn, 1) := by decide +kernel
theorem dX12_isSmall_0 : decode cX12_isSmall 0 = .ok (.iload_n 1, 1) := by decide +kernel
theorem dX12_isSmall_1 : decode cX12_isSmall 1 = .ok (.aload_n 0, 1) := by decide +kernel
theorem dX12_isSmall_2 : decode cX12_isSmall 2 = .ok (.getfield 151, 3) := by decide +kernel
theorem dX12_isSmall_5 : decode cX12_isSmall 5 = .ok (.if_icmp .ge 29, 3) := by decide +kernel
theorem dX12_isSmall_8 : decode cX12_isSmall 8 = .ok (.aload_n 0, 1) := by decide +kernel
theorem dX12_isSmall_9 : decode cX12_isSmall 9 = .ok (.getfield 7, 3) := by decide +kernel
theorem dX12_isSmall_12 : decode cX12_isSmall 12 = .ok (.iload_n 1, 1) := by decide +kernel
theorem dX12_isSmall_13 : decode cX12_isSmall 13 = .ok (.iaload, 1) := by decide +kernel
theorem dX12_isSmall_14 : decode cX12_isSmall 14 = .ok (.bipush 97, 2) := by decide +kernel
theorem dX12_isSmall_16 : decode cX12_isSmall 16 = .ok (.if_icmp .lt 18, 3) := by decide +kernel
theorem dX12_isSmall_19 : decode cX12_isSmall 19 = .ok (.aload_n 0, 1) := by decide +kernel
theorem dX12_isSmall_20 : decode cX12_isSmall 20 = .ok (.getfield 7, 3) := by decide +kernel
theorem dX12_isSmall_23 : decode cX12_isSmall 23 = .ok (.iload_n 1, 1) := by decide +kernel
theorem dX12_isSmall_24 : decode cX12_isSmall 24 = .ok (.iaload, 1) := by decide +kernel
theorem dX12_isSmall_25 : decode cX12_isSmall 25 = .ok (.bipush 122, 2) := by decide +kernel
theorem dX12_isSmall_27 : decode cX12_isSmall 27 = .ok (.if_icmp .gt 7, 3) := by decide +kernel
theorem dX12_isSmall_30 : decode cX12_isSmall 30 = .ok (.iconst 1, 1) := by decide +kernel
theorem dX12_isSmall_31 : decode cX12_isSmall 31 = .ok (.goto 4, 3) := by decide +kernel
theorem dX12_isSmall_34 : decode cX12_isSmall 34 = .ok (.iconst 0, 1) := by decide +kernel
theorem dX12_isSmall_35 : decode cX12_isSmall 35 = .ok (.ireturn, 1) := by decide +kernel
theorem dX12_isDigit_0 : decode cX12_isDigit 0 = .ok (.iload_n 1, 1) := by decide +kernel
theorem dX12_isDigit_1 : decode cX12_isDigit 1 = .ok (.aload_n 0, 1) := by decide +kernel
theorem dX12_isDigit_2 : decode cX12_isDigit 2 = .ok (.getfield 151, 3) := by decide +kernel
theorem dX12_isDigit_5 : decode cX12_isDigit 5 = .ok (.if_icmp .ge 29, 3) := by decide +kernel
theorem dX12_isDigit_8 : decode cX12_isDigit 8 = .ok (.aload_n 0, 1) := by decide +kernel
theorem dX12_isDigit_9 : decode cX12_isDigit 9 = .ok (.getfield 7, 3) := by decide +kernel
theorem dX12_isDigit_12 : decode cX12_isDigit 12 = .ok (.iload_n 1, 1) := by decide +kernel
theorem dX12_isDigit_13 : decode cX12_isDigit 13 = .ok (.iaload, 1) := by decide +kernel
theorem dX12_isDigit_14 : decode cX12_isDigit 14 = .ok (.bipush 48, 2) := by decide +kernel
theorem dX12_isDigit_16 : decode cX12_isDigit 16 = .ok (.if_icmp .lt 18, 3) := by decide +kernel
theorem dX12_isDigit_19 : decode cX12_isDigit 19 = .ok (.aload_n 0, 1) := by decide +kernel
theorem dX12_isDigit_20 : decode cX12_isDigit 20 = .ok (.getfield 7, 3) := by decide +kernel
theorem dX12_isDigit_23 : decode cX12_isDigit 23 = .ok (.iload_n 1, 1) := by decide +kernel
theorem dX12_isDigit_24 : decode cX12_isDigit 24 = .ok (.iaload, 1) := by decide +kernel
theorem dX12_isDigit_25 : decode cX12_isDigit 25 = .ok (.bipush 57, 2) := by decide +kernel
theorem dX12_isDigit_27 : decode cX12_isDigit 27 = .ok (.if_icmp .gt 7, 3) := by decide +kernel
theorem dX12_isDigit_30 : decode cX12_isDigit 30 = .ok (.iconst 1, 1) := by decide +kernel
theorem dX12_isDigit_31 : decode cX12_isDigit 31 = .ok (.goto 4, 3) := by decide +kernel
theorem dX12_isDigit_34 : decode cX12_isDigit 34 = .ok (.iconst 0, 1) := by decide +kernel
theorem dX12_isDigit_35 : decode cX12_isDigit 35 = .ok (.ireturn, 1) := by decide +kernel
theorem dX12_token_0 : decode cX12_token 0 = .ok (.aload_n 0, 1) := by decide +kernel
theorem dX12_token_1 : decode cX12_token 1 = .ok (.getfield 154, 3) := by decide +kernel
theorem dX12_token_4 : decode cX12_token 4 = .ok (.aload_n 0, 1) := by decide +kernel
theorem dX12_token_5 : decode cX12_token 5 = .ok (.getfield 151, 3) := by decide +kernel
theorem dX12_token_8 : decode cX12_token 8 = .ok (.if_icmp .ge 44, 3) := by decide +kernel
theorem dX12_token_11 : decode cX12_token 11 = .ok (.aload_n 0, 1) := by decide +kernel
theorem dX12_token_12 : decode cX12_token 12 = .ok (.getfield 7, 3) := by decide +kernel
theorem dX12_token_15 : decode cX12_token 15 = .ok (.aload_n 0, 1) := by decide +kernel
theorem dX12_token_16 : decode cX12_token 16 = .ok (.getfield 154, 3) := by decide +kernel
theorem dX12_token_19 : decode cX12_token 19 = .ok (.iaload, 1) := by decide +kernel
theorem dX12_token_20 : decode cX12_token 20 = .ok (.bipush 10, 2) := by decide +kernel
theorem dX12_token_22 : decode cX12_token 22 = .ok (.if_icmp .eq 17, 3) := by decide +kernel
theorem dX12_token_25 : decode cX12_token 25 = .ok (.aload_n 0, 1) := by decide +kernel
theorem dX12_token_26 : decode cX12_token 26 = .ok (.getfield 7, 3) := by decide +kernel
theorem dX12_token_29 : decode cX12_token 29 = .ok (.aload_n 0, 1) := by decide +kernel
theorem dX12_token_30 : decode cX12_token 30 = .ok (.getfield 154, 3) := by decide +kernel
theorem dX12_token_33 : decode cX12_token 33 = .ok (.iaload, 1) := by decide +kernel
theorem dX12_token_34 : decode cX12_token 34 = .ok (.bipush 32, 2) := by decide +kernel
theorem dX12_token_36 : decode cX12_token 36 = .ok (.if_icmp .ne 16, 3) := by decide +kernel
theorem dX12_token_39 : decode cX12_token 39 = .ok (.aload_n 0, 1) := by decide +kernel
theorem dX12_token_40 : decode cX12_token 40 = .ok (.dup, 1) := by decide +kernel
theorem dX12_token_41 : decode cX12_token 41 = .ok (.getfield 154, 3) := by decide +kernel
theorem dX12_token_44 : decode cX12_token 44 = .ok (.iconst 1, 1) := by decide +kernel
theorem dX12_token_45 : decode cX12_token 45 = .ok (.iadd, 1) := by decide +kernel
theorem dX12_token_46 : decode cX12_token 46 = .ok (.putfield 154, 3) := by decide +kernel
theorem dX12_token_49 : decode cX12_token 49 = .ok (.goto (-49), 3) := by decide +kernel
theorem dX12_token_52 : decode cX12_token 52 = .ok (.aload_n 0, 1) := by decide +kernel
theorem dX12_token_53 : decode cX12_token 53 = .ok (.aload_n 0, 1) := by decide +kernel
theorem dX12_token_54 : decode cX12_token 54 = .ok (.getfield 154, 3) := by decide +kernel
theorem dX12_token_57 : decode cX12_token 57 = .ok (.putfield 148, 3) := by decide +kernel
theorem dX12_token_60 : decode cX12_token 60 = .ok (.aload_n 0, 1) := by decide +kernel
theorem dX12_token_61 : decode cX12_token 61 = .ok (.getfield 154, 3) := by decide +kernel
theorem dX12_token_64 : decode cX12_token 64 = .ok (.aload_n 0, 1) := by decide +kernel
theorem dX12_token_65 : decode cX12_token 65 = .ok (.getfield 151, 3) := by decide +kernel
theorem dX12_token_68 : decode cX12_token 68 = .ok (.if_icmp .ne 11, 3) := by decide +kernel
theorem dX12_token_71 : decode cX12_token 71 = .ok (.aload_n 0, 1) := by decide +kernel
theorem dX12_token_72 : decode cX12_token 72 = .ok (.iconst 0, 1) := by decide +kernel
theorem dX12_token_73 : decode cX12_token 73 = .ok (.putfield 157, 3) := by decide +kernel
theorem dX12_token_76 : decode cX12_token 76 = .ok (.goto 205, 3) := by decide +kernel
theorem dX12_token_79 : decode cX12_token 79 = .ok (.aload_n 0, 1) := by decide +kernel
theorem dX12_token_80 : decode cX12_token 80 = .ok (.aload_n 0, 1) := by decide +kernel
theorem dX12_token_81 : decode cX12_token 81 = .ok (.getfield 154, 3) := by decide +kernel
theorem dX12_token_84 : decode cX12_token 84 = .ok (.invokevirtual 160, 3) := by decide +kernel
theorem dX12_token_87 : decode cX12_token 87 = .ok (.ifCond .eq 105, 3) := by decide +kernel
theorem dX12_token_90 : decode cX12_token 90 = .ok (.aload_n 0, 1) := by decide +kernel
theorem dX12_token_91 : decode cX12_token 91 = .ok (.aload_n 0, 1) := by decide +kernel
theorem dX12_token_92 : decode cX12_token 92 = .ok (.getfield 154, 3) := by decide +kernel
theorem dX12_token_95 : decode cX12_token 95 = .ok (.invokevirtual 160, 3) := by decide +kernel
theorem dX12_token_98 : decode cX12_token 98 = .ok (.ifCond .eq 16, 3) := by decide +kernel
theorem dX12_token_101 : decode cX12_token 101 = .ok (.aload_n 0, 1) := by decide +kernel
theorem dX12_token_102 : decode cX12_token 102 = .ok (.dup, 1) := by decide +kernel
theorem dX12_token_103 : decode cX12_token 103 = .ok (.getfield 154, 3) := by decide +kernel
theorem dX12_token_106 : decode cX12_token 106 = .ok (.iconst 1, 1) := by decide +kernel
theorem dX12_token_107 : decode cX12_token 107 = .ok (.iadd, 1) := by decide +kernel
theorem dX12_token_108 : decode cX12_token 108 = .ok (.putfield 154, 3) := by decide +kernel
theorem dX12_token_111 : decode cX12_token 111 = .ok (.goto (-21), 3) := by decide +kernel
theorem dX12_token_114 : decode cX12_token 114 = .ok (.aload_n 0, 1) := by decide +kernel
theorem dX12_token_115 : decode cX12_token 115 = .ok (.aload_n 0, 1) := by decide +kernel
theorem dX12_token_116 : decode cX12_token 116 = .ok (.aload_n 0, 1) := by decide +kernel
theorem dX12_token_117 : decode cX12_token 117 = .ok (.getfield 148, 3) := by decide +kernel
theorem dX12_token_120 : decode cX12_token 120 = .ok (.aload_n 0, 1) := by decide +kernel
theorem dX12_token_121 : decode cX12_token 121 = .ok (.getfield 154, 3) := by decide +kernel
theorem dX12_token_124 : decode cX12_token 124 = .ok (.invokevirtual 164, 3) := by decide +kernel
theorem dX12_token_127 : decode cX12_token 127 = .ok (.putfield 168, 3) := by decide +kernel
theorem dX12_token_130 : decode cX12_token 130 = .ok (.aload_n 0, 1) := by decide +kernel
theorem dX12_token_131 : decode cX12_token 131 = .ok (.aload_n 0, 1) := by decide +kernel
theorem dX12_token_132 : decode cX12_token 132 = .ok (.getfield 168, 3) := by decide +kernel
theorem dX12_token_135 : decode cX12_token 135 = .ok (.ifCond .lt 7, 3) := by decide +kernel
theorem dX12_token_138 : decode cX12_token 138 = .ok (.iconst 1, 1) := by decide +kernel
theorem dX12_token_139 : decode cX12_token 139 = .ok (.goto 23, 3) := by decide +kernel
theorem dX12_token_142 : decode cX12_token 142 = .ok (.aload_n 0, 1) := by decide +kernel
theorem dX12_token_143 : decode cX12_token 143 = .ok (.getfield 154, 3) := by decide +kernel
theorem dX12_token_146 : decode cX12_token 146 = .ok (.aload_n 0, 1) := by decide +kernel
theorem dX12_token_147 : decode cX12_token 147 = .ok (.getfield 148, 3) := by decide +kernel
theorem dX12_token_150 : decode cX12_token 150 = .ok (.isub, 1) := by decide +kernel
theorem dX12_token_151 : decode cX12_token 151 = .ok (.bipush 6, 2) := by decide +kernel
theorem dX12_token_153 : decode cX12_token 153 = .ok (.if_icmp .le 8, 3) := by decide +kernel
theorem dX12_token_156 : decode cX12_token 156 = .ok (.bipush 6, 2) := by decide +kernel
theorem dX12_token_158 : decode cX12_token 158 = .ok (.goto 4, 3) := by decide +kernel
theorem dX12_token_161 : decode cX12_token 161 = .ok (.iconst 2, 1) := by decide +kernel
theorem dX12_token_162 : decode cX12_token 162 = .ok (.putfield 157, 3) := by decide +kernel
theorem dX12_token_165 : decode cX12_token 165 = .ok (.aload_n 0, 1) := by decide +kernel
theorem dX12_token_166 : decode cX12_token 166 = .ok (.getfield 157, 3) := by decide +kernel
theorem dX12_token_169 : decode cX12_token 169 = .ok (.iconst 2, 1) := by decide +kernel
theorem dX12_token_170 : decode cX12_token 170 = .ok (.if_icmp .ne 111, 3) := by decide +kernel
theorem dX12_token_173 : decode cX12_token 173 = .ok (.aload_n 0, 1) := by decide +kernel
theorem dX12_token_174 : decode cX12_token 174 = .ok (.aload_n 0, 1) := by decide +kernel
theorem dX12_token_175 : decode cX12_token 175 = .ok (.aload_n 0, 1) := by decide +kernel
theorem dX12_token_176 : decode cX12_token 176 = .ok (.getfield 148, 3) := by decide +kernel
theorem dX12_token_179 : decode cX12_token 179 = .ok (.aload_n 0, 1) := by decide +kernel
theorem dX12_token_180 : decode cX12_token 180 = .ok (.getfield 154, 3) := by decide +kernel
theorem dX12_token_183 : decode cX12_token 183 = .ok (.invokevirtual 171, 3) := by decide +kernel
theorem dX12_token_186 : decode cX12_token 186 = .ok (.putfield 168, 3) := by decide +kernel
theorem dX12_token_189 : decode cX12_token 189 = .ok (.goto 92, 3) := by decide +kernel
theorem dX12_token_192 : decode cX12_token 192 = .ok (.aload_n 0, 1) := by decide +kernel
theorem dX12_token_193 : decode cX12_token 193 = .ok (.aload_n 0, 1) := by decide +kernel
theorem dX12_token_194 : decode cX12_token 194 = .ok (.getfield 154, 3) := by decide +kernel
theorem dX12_token_197 : decode cX12_token 197 = .ok (.invokevirtual 174, 3) := by decide +kernel
theorem dX12_token_200 : decode cX12_token 200 = .ok (.ifCond .eq 77, 3) := by decide +kernel
theorem dX12_token_203 : decode cX12_token 203 = .ok (.aload_n 0, 1) := by decide +kernel
theorem dX12_token_204 : decode cX12_token 204 = .ok (.iconst 3, 1) := by decide +kernel
theorem dX12_token_205 : decode cX12_token 205 = .ok (.putfield 157, 3) := by decide +kernel
theorem dX12_token_208 : decode cX12_token 208 = .ok (.aload_n 0, 1) := by decide +kernel
theorem dX12_token_209 : decode cX12_token 209 = .ok (.iconst 0, 1) := by decide +kernel
theorem dX12_token_210 : decode cX12_token 210 = .ok (.putfield 168, 3) := by decide +kernel
theorem dX12_token_213 : decode cX12_token 213 = .ok (.aload_n 0, 1) := by decide +kernel
theorem dX12_token_214 : decode cX12_token 214 = .ok (.aload_n 0, 1) := by decide +kernel
theorem dX12_token_215 : decode cX12_token 215 = .ok (.getfield 154, 3) := by decide +kernel
theorem dX12_token_218 : decode cX12_token 218 = .ok (.invokevirtual 174, 3) := by decide +kernel
theorem dX12_token_221 : decode cX12_token 221 = .ok (.ifCond .eq 60, 3) := by decide +kernel
theorem dX12_token_224 : decode cX12_token 224 = .ok (.aload_n 0, 1) := by decide +kernel
theorem dX12_token_225 : decode cX12_token 225 = .ok (.aload_n 0, 1) := by decide +kernel
theorem dX12_token_226 : decode cX12_token 226 = .ok (.getfield 168, 3) := by decide +kernel
theorem dX12_token_229 : decode cX12_token 229 = .ok (.ldc 177, 2) := by decide +kernel
theorem dX12_token_231 : decode cX12_token 231 = .ok (.if_icmp .le 10, 3) := by decide +kernel
theorem dX12_token_234 : decode cX12_token 234 = .ok (.aload_n 0, 1) := by decide +kernel
theorem dX12_token_235 : decode cX12_token 235 = .ok (.getfield 168, 3) := by decide +kernel
theorem dX12_token_238 : decode cX12_token 238 = .ok (.goto 23, 3) := by decide +kernel
theorem dX12_token_241 : decode cX12_token 241 = .ok (.bipush 10, 2) := by decide +kernel
theorem dX12_token_243 : decode cX12_token 243 = .ok (.aload_n 0, 1) := by decide +kernel
theorem dX12_token_244 : decode cX12_token 244 = .ok (.getfield 168, 3) := by decide +kernel
theorem dX12_token_247 : decode cX12_token 247 = .ok (.imul, 1) := by decide +kernel
theorem dX12_token_248 : decode cX12_token 248 = .ok (.aload_n 0, 1) := by decide +kernel
theorem dX12_token_249 : decode cX12_token 249 = .ok (.getfield 7, 3) := by decide +kernel
theorem dX12_token_252 : decode cX12_token 252 = .ok (.aload_n 0, 1) := by decide +kernel
theorem dX12_token_253 : decode cX12_token 253 = .ok (.getfield 154, 3) := by decide +kernel
theorem dX12_token_256 : decode cX12_token 256 = .ok (.iaload, 1) := by decide +kernel
theorem dX12_token_257 : decode cX12_token 257 = .ok (.iadd, 1) := by decide +kernel
theorem dX12_token_258 : decode cX12_token 258 = .ok (.bipush 48, 2) := by decide +kernel
theorem dX12_token_260 : decode cX12_token 260 = .ok (.isub, 1) := by decide +kernel
theorem dX12_token_261 : decode cX12_token 261 = .ok (.putfield 168, 3) := by decide +kernel
theorem dX12_token_264 : decode cX12_token 264 = .ok (.aload_n 0, 1) := by decide +kernel
theorem dX12_token_265 : decode cX12_token 265 = .ok (.dup, 1) := by decide +kernel
theorem dX12_token_266 : decode cX12_token 266 = .ok (.getfield 154, 3) := by decide +kernel
theorem dX12_token_269 : decode cX12_token 269 = .ok (.iconst 1, 1) := by decide +kernel
theorem dX12_token_270 : decode cX12_token 270 = .ok (.iadd, 1) := by decide +kernel
theorem dX12_token_271 : decode cX12_token 271 = .ok (.putfield 154, 3) := by decide +kernel
theorem dX12_token_274 : decode cX12_token 274 = .ok (.goto (-61), 3) := by decide +kernel
theorem dX12_token_277 : decode cX12_token 277 = .ok (.aload_n 0, 1) := by decide +kernel
theorem dX12_token_278 : decode cX12_token 278 = .ok (.invokevirtual 178, 3) := by decide +kernel
theorem dX12_token_281 : decode cX12_token 281 = .ok (.return_, 1) := by decide +kernel
theorem dX12_signToken_0 : decode cX12_signToken 0 = .ok (.aload_n 0, 1) := by decide +kernel
theorem dX12_signToken_1 : decode cX12_signToken 1 = .ok (.aload_n 0, 1) := by decide +kernel
theorem dX12_signToken_2 : decode cX12_signToken 2 = .ok (.getfield 7, 3) := by decide +kernel
theorem dX12_signToken_5 : decode cX12_signToken 5 = .ok (.aload_n 0, 1) := by decide +kernel
theorem dX12_signToken_6 : decode cX12_signToken 6 = .ok (.getfield 154, 3) := by decide +kernel
theorem dX12_signToken_9 : decode cX12_signToken 9 = .ok (.iaload, 1) := by decide +kernel
theorem dX12_signToken_10 : decode cX12_signToken 10 = .ok (.putfield 168, 3) := by decide +kernel
theorem dX12_signToken_13 : decode cX12_signToken 13 = .ok (.aload_n 0, 1) := by decide +kernel
theorem dX12_signToken_14 : decode cX12_signToken 14 = .ok (.dup, 1) := by decide +kernel
theorem dX12_signToken_15 : decode cX12_signToken 15 = .ok (.getfield 154, 3) := by decide +kernel
theorem dX12_signToken_18 : decode cX12_signToken 18 = .ok (.iconst 1, 1) := by decide +kernel
theorem dX12_signToken_19 : decode cX12_signToken 19 = .ok (.iadd, 1) := by decide +kernel
theorem dX12_signToken_20 : decode cX12_signToken 20 = .ok (.putfield 154, 3) := by decide +kernel
theorem dX12_signToken_23 : decode cX12_signToken 23 = .ok (.aload_n 0, 1) := by decide +kernel
theorem dX12_signToken_24 : decode cX12_signToken 24 = .ok (.getfield 168, 3) := by decide +kernel
theorem dX12_signToken_27 : decode cX12_signToken 27 = .ok (.bipush 60, 2) := by decide +kernel
theorem dX12_signToken_29 : decode cX12_signToken 29 = .ok (.if_icmp .eq 21, 3) := by decide +kernel
theorem dX12_signToken_32 : decode cX12_signToken 32 = .ok (.aload_n 0, 1) := by decide +kernel
theorem dX12_signToken_33 : decode cX12_signToken 33 = .ok (.getfield 168, 3) := by decide +kernel
theorem dX12_signToken_36 : decode cX12_signToken 36 = .ok (.bipush 62, 2) := by decide +kernel
theorem dX12_signToken_38 : decode cX12_signToken 38 = .ok (.if_icmp .eq 12, 3) := by decide +kernel
theorem dX12_signToken_41 : decode cX12_signToken 41 = .ok (.aload_n 0, 1) := by decide +kernel
theorem dX12_signToken_42 : decode cX12_signToken 42 = .ok (.getfield 168, 3) := by decide +kernel
theorem dX12_signToken_45 : decode cX12_signToken 45 = .ok (.bipush 61, 2) := by decide +kernel
theorem dX12_signToken_47 : decode cX12_signToken 47 = .ok (.if_icmp .ne 151, 3) := by decide +kernel
theorem dX12_signToken_50 : decode cX12_signToken 50 = .ok (.aload_n 0, 1) := by decide +kernel
theorem dX12_signToken_51 : decode cX12_signToken 51 = .ok (.getfield 154, 3) := by decide +kernel
theorem dX12_signToken_54 : decode cX12_signToken 54 = .ok (.aload_n 0, 1) := by decide +kernel
theorem dX12_signToken_55 : decode cX12_signToken 55 = .ok (.getfield 151, 3) := by decide +kernel
theorem dX12_signToken_58 : decode cX12_signToken 58 = .ok (.if_icmp .ge 15, 3) := by decide +kernel
theorem dX12_signToken_61 : decode cX12_signToken 61 = .ok (.aload_n 0, 1) := by decide +kernel
theorem dX12_signToken_62 : decode cX12_signToken 62 = .ok (.getfield 7, 3) := by decide +kernel
theorem dX12_signToken_65 : decode cX12_signToken 65 = .ok (.aload_n 0, 1) := by decide +kernel
theorem dX12_signToken_66 : decode cX12_signToken 66 = .ok (.getfield 154, 3) := by decide +kernel
theorem dX12_signToken_69 : decode cX12_signToken 69 = .ok (.iaload, 1) := by decide +kernel
theorem dX12_signToken_70 : decode cX12_signToken 70 = .ok (.goto 4, 3) := by decide +kernel
theorem dX12_signToken_73 : decode cX12_signToken 73 = .ok (.iconst 0, 1) := by decide +kernel
theorem dX12_signToken_74 : decode cX12_signToken 74 = .ok (.istore_n 1, 1) := by decide +kernel
theorem dX12_signToken_75 : decode cX12_signToken 75 = .ok (.aload_n 0, 1) := by decide +kernel
theorem dX12_signToken_76 : decode cX12_signToken 76 = .ok (.getfield 168, 3) := by decide +kernel
theorem dX12_signToken_79 : decode cX12_signToken 79 = .ok (.bipush 61, 2) := by decide +kernel
theorem dX12_signToken_81 : decode cX12_signToken 81 = .ok (.if_icmp .eq 13, 3) := by decide +kernel
theorem dX12_signToken_84 : decode cX12_signToken 84 = .ok (.iload_n 1, 1) := by decide +kernel
theorem dX12_signToken_85 : decode cX12_signToken 85 = .ok (.bipush 61, 2) := by decide +kernel
theorem dX12_signToken_87 : decode cX12_signToken 87 = .ok (.if_icmp .ne 7, 3) := by decide +kernel
theorem dX12_signToken_90 : decode cX12_signToken 90 = .ok (.iconst 1, 1) := by decide +kernel
theorem dX12_signToken_91 : decode cX12_signToken 91 = .ok (.goto 4, 3) := by decide +kernel
theorem dX12_signToken_94 : decode cX12_signToken 94 = .ok (.iconst 0, 1) := by decide +kernel
theorem dX12_signToken_95 : decode cX12_signToken 95 = .ok (.istore_n 2, 1) := by decide +kernel
theorem dX12_signToken_96 : decode cX12_signToken 96 = .ok (.aload_n 0, 1) := by decide +kernel
theorem dX12_signToken_97 : decode cX12_signToken 97 = .ok (.getfield 168, 3) := by decide +kernel
theorem dX12_signToken_100 : decode cX12_signToken 100 = .ok (.bipush 60, 2) := by decide +kernel
theorem dX12_signToken_102 : decode cX12_signToken 102 = .ok (.if_icmp .ne 13, 3) := by decide +kernel
theorem dX12_signToken_105 : decode cX12_signToken 105 = .ok (.iload_n 1, 1) := by decide +kernel
theorem dX12_signToken_106 : decode cX12_signToken 106 = .ok (.bipush 62, 2) := by decide +kernel
theorem dX12_signToken_108 : decode cX12_signToken 108 = .ok (.if_icmp .ne 7, 3) := by decide +kernel
theorem dX12_signToken_111 : decode cX12_signToken 111 = .ok (.iconst 1, 1) := by decide +kernel
theorem dX12_signToken_112 : decode cX12_signToken 112 = .ok (.goto 4, 3) := by decide +kernel
theorem dX12_signToken_115 : decode cX12_signToken 115 = .ok (.iconst 0, 1) := by decide +kernel
theorem dX12_signToken_116 : decode cX12_signToken 116 = .ok (.istore_n 3, 1) := by decide +kernel
theorem dX12_signToken_117 : decode cX12_signToken 117 = .ok (.iload_n 2, 1) := by decide +kernel
theorem dX12_signToken_118 : decode cX12_signToken 118 = .ok (.ifCond .ne 7, 3) := by decide +kernel
theorem dX12_signToken_121 : decode cX12_signToken 121 = .ok (.iload_n 3, 1) := by decide +kernel
theorem dX12_signToken_122 : decode cX12_signToken 122 = .ok (.ifCond .eq 13, 3) := by decide +kernel
theorem dX12_signToken_125 : decode cX12_signToken 125 = .ok (.aload_n 0, 1) := by decide +kernel
theorem dX12_signToken_126 : decode cX12_signToken 126 = .ok (.dup, 1) := by decide +kernel
theorem dX12_signToken_127 : decode cX12_signToken 127 = .ok (.getfield 154, 3) := by decide +kernel
theorem dX12_signToken_130 : decode cX12_signToken 130 = .ok (.iconst 1, 1) := by decide +kernel
theorem dX12_signToken_131 : decode cX12_signToken 131 = .ok (.iadd, 1) := by decide +kernel
theorem dX12_signToken_132 : decode cX12_signToken 132 = .ok (.putfield 154, 3) := by decide +kernel
theorem dX12_signToken_135 : decode cX12_signToken 135 = .ok (.aload_n 0, 1) := by decide +kernel
theorem dX12_signToken_136 : decode cX12_signToken 136 = .ok (.iconst 5, 1) := by decide +kernel
theorem dX12_signToken_137 : decode cX12_signToken 137 = .ok (.putfield 157, 3) := by decide +kernel
theorem dX12_signToken_140 : decode cX12_signToken 140 = .ok (.aload_n 0, 1) := by decide +kernel
theorem dX12_signToken_141 : decode cX12_signToken 141 = .ok (.aload_n 0, 1) := by decide +kernel
theorem dX12_signToken_142 : decode cX12_signToken 142 = .ok (.getfield 168, 3) := by decide +kernel
theorem dX12_signToken_145 : decode cX12_signToken 145 = .ok (.bipush 61, 2) := by decide +kernel
theorem dX12_signToken_147 : decode cX12_signToken 147 = .ok (.if_icmp .ne 7, 3) := by decide +kernel
theorem dX12_signToken_150 : decode cX12_signToken 150 = .ok (.iconst 2, 1) := by decide +kernel
theorem dX12_signToken_151 : decode cX12_signToken 151 = .ok (.goto 41, 3) := by decide +kernel
theorem dX12_signToken_154 : decode cX12_signToken 154 = .ok (.aload_n 0, 1) := by decide +kernel
theorem dX12_signToken_155 : decode cX12_signToken 155 = .ok (.getfield 168, 3) := by decide +kernel
theorem dX12_signToken_158 : decode cX12_signToken 158 = .ok (.bipush 60, 2) := by decide +kernel
theorem dX12_signToken_160 : decode cX12_signToken 160 = .ok (.if_icmp .ne 23, 3) := by decide +kernel
theorem dX12_signToken_163 : decode cX12_signToken 163 = .ok (.iload_n 2, 1) := by decide +kernel
theorem dX12_signToken_164 : decode cX12_signToken 164 = .ok (.ifCond .eq 7, 3) := by decide +kernel
theorem dX12_signToken_167 : decode cX12_signToken 167 = .ok (.iconst 1, 1) := by decide +kernel
theorem dX12_signToken_168 : decode cX12_signToken 168 = .ok (.goto 24, 3) := by decide +kernel
theorem dX12_signToken_171 : decode cX12_signToken 171 = .ok (.iload_n 3, 1) := by decide +kernel
theorem dX12_signToken_172 : decode cX12_signToken 172 = .ok (.ifCond .eq 7, 3) := by decide +kernel
theorem dX12_signToken_175 : decode cX12_signToken 175 = .ok (.iconst 3, 1) := by decide +kernel
theorem dX12_signToken_176 : decode cX12_signToken 176 = .ok (.goto 16, 3) := by decide +kernel
theorem dX12_signToken_179 : decode cX12_signToken 179 = .ok (.iconst 0, 1) := by decide +kernel
theorem dX12_signToken_180 : decode cX12_signToken 180 = .ok (.goto 12, 3) := by decide +kernel
theorem dX12_signToken_183 : decode cX12_signToken 183 = .ok (.iload_n 2, 1) := by decide +kernel
theorem dX12_signToken_184 : decode cX12_signToken 184 = .ok (.ifCond .eq 7, 3) := by decide +kernel
theorem dX12_signToken_187 : decode cX12_signToken 187 = .ok (.iconst 4, 1) := by decide +kernel
theorem dX12_signToken_188 : decode cX12_signToken 188 = .ok (.goto 4, 3) := by decide +kernel
theorem dX12_signToken_191 : decode cX12_signToken 191 = .ok (.iconst 5, 1) := by decide +kernel
theorem dX12_signToken_192 : decode cX12_signToken 192 = .ok (.putfield 168, 3) := by decide +kernel
theorem dX12_signToken_195 : decode cX12_signToken 195 = .ok (.goto 95, 3) := by decide +kernel
theorem dX12_signToken_198 : decode cX12_signToken 198 = .ok (.aload_n 0, 1) := by decide +kernel
theorem dX12_signToken_199 : decode cX12_signToken 199 = .ok (.getfield 168, 3) := by decide +kernel
theorem dX12_signToken_202 : decode cX12_signToken 202 = .ok (.bipush 59, 2) := by decide +kernel
theorem dX12_signToken_204 : decode cX12_signToken 204 = .ok (.if_icmp .eq 66, 3) := by decide +kernel
theorem dX12_signToken_207 : decode cX12_signToken 207 = .ok (.aload_n 0, 1) := by decide +kernel
theorem dX12_signToken_208 : decode cX12_signToken 208 = .ok (.getfield 168, 3) := by decide +kernel
theorem dX12_signToken_211 : decode cX12_signToken 211 = .ok (.bipush 40, 2) := by decide +kernel
theorem dX12_signToken_213 : decode cX12_signToken 213 = .ok (.if_icmp .eq 57, 3) := by decide +kernel
theorem dX12_signToken_216 : decode cX12_signToken 216 = .ok (.aload_n 0, 1) := by decide +kernel
theorem dX12_signToken_217 : decode cX12_signToken 217 = .ok (.getfield 168, 3) := by decide +kernel
theorem dX12_signToken_220 : decode cX12_signToken 220 = .ok (.bipush 41, 2) := by decide +kernel
theorem dX12_signToken_222 : decode cX12_signToken 222 = .ok (.if_icmp .eq 48, 3) := by decide +kernel
theorem dX12_signToken_225 : decode cX12_signToken 225 = .ok (.aload_n 0, 1) := by decide +kernel
theorem dX12_signToken_226 : decode cX12_signToken 226 = .ok (.getfield 168, 3) := by decide +kernel
theorem dX12_signToken_229 : decode cX12_signToken 229 = .ok (.bipush 43, 2) := by decide +kernel
theorem dX12_signToken_231 : decode cX12_signToken 231 = .ok (.if_icmp .eq 39, 3) := by decide +kernel
theorem dX12_signToken_234 : decode cX12_signToken 234 = .ok (.aload_n 0, 1) := by decide +kernel
theorem dX12_signToken_235 : decode cX12_signToken 235 = .ok (.getfield 168, 3) := by decide +kernel
theorem dX12_signToken_238 : decode cX12_signToken 238 = .ok (.bipush 45, 2) := by decide +kernel
theorem dX12_signToken_240 : decode cX12_signToken 240 = .ok (.if_icmp .eq 30, 3) := by decide +kernel
theorem dX12_signToken_243 : decode cX12_signToken 243 = .ok (.aload_n 0, 1) := by decide +kernel
theorem dX12_signToken_244 : decode cX12_signToken 244 = .ok (.getfield 168, 3) := by decide +kernel
theorem dX12_signToken_247 : decode cX12_signToken 247 = .ok (.bipush 42, 2) := by decide +kernel
theorem dX12_signToken_249 : decode cX12_signToken 249 = .ok (.if_icmp .eq 21, 3) := by decide +kernel
theorem dX12_signToken_252 : decode cX12_signToken 252 = .ok (.aload_n 0, 1) := by decide +kernel
theorem dX12_signToken_253 : decode cX12_signToken 253 = .ok (.getfield 168, 3) := by decide +kernel
theorem dX12_signToken_256 : decode cX12_signToken 256 = .ok (.bipush 47, 2) := by decide +kernel
theorem dX12_signToken_258 : decode cX12_signToken 258 = .ok (.if_icmp .eq 12, 3) := by decide +kernel
theorem dX12_signToken_261 : decode cX12_signToken 261 = .ok (.aload_n 0, 1) := by decide +kernel
theorem dX12_signToken_262 : decode cX12_signToken 262 = .ok (.getfield 168, 3) := by decide +kernel
theorem dX12_signToken_265 : decode cX12_signToken 265 = .ok (.bipush 37, 2) := by decide +kernel
theorem dX12_signToken_267 : decode cX12_signToken 267 = .ok (.if_icmp .ne 7, 3) := by decide +kernel
theorem dX12_signToken_270 : decode cX12_signToken 270 = .ok (.iconst 1, 1) := by decide +kernel
theorem dX12_signToken_271 : decode cX12_signToken 271 = .ok (.goto 4, 3) := by decide +kernel
theorem dX12_signToken_274 : decode cX12_signToken 274 = .ok (.iconst 0, 1) := by decide +kernel
theorem dX12_signToken_275 : decode cX12_signToken 275 = .ok (.istore_n 1, 1) := by decide +kernel
theorem dX12_signToken_276 : decode cX12_signToken 276 = .ok (.aload_n 0, 1) := by decide +kernel
theorem dX12_signToken_277 : decode cX12_signToken 277 = .ok (.iload_n 1, 1) := by decide +kernel
theorem dX12_signToken_278 : decode cX12_signToken 278 = .ok (.ifCond .eq 7, 3) := by decide +kernel
theorem dX12_signToken_281 : decode cX12_signToken 281 = .ok (.iconst 4, 1) := by decide +kernel
theorem dX12_signToken_282 : decode cX12_signToken 282 = .ok (.goto 5, 3) := by decide +kernel
theorem dX12_signToken_285 : decode cX12_signToken 285 = .ok (.bipush 6, 2) := by decide +kernel
theorem dX12_signToken_287 : decode cX12_signToken 287 = .ok (.putfield 157, 3) := by decide +kernel
theorem dX12_signToken_290 : decode cX12_signToken 290 = .ok (.return_, 1) := by decide +kernel
theorem dX12_packed_0 : decode cX12_packed 0 = .ok (.iconst 0, 1) := by decide +kernel
theorem dX12_packed_1 : decode cX12_packed 1 = .ok (.istore_n 3, 1) := by decide +kernel
theorem dX12_packed_2 : decode cX12_packed 2 = .ok (.iload_n 1, 1) := by decide +kernel
theorem dX12_packed_3 : decode cX12_packed 3 = .ok (.istore 4, 2) := by decide +kernel
theorem dX12_packed_5 : decode cX12_packed 5 = .ok (.iload 4, 2) := by decide +kernel
theorem dX12_packed_7 : decode cX12_packed 7 = .ok (.iload_n 1, 1) := by decide +kernel
theorem dX12_packed_8 : decode cX12_packed 8 = .ok (.bipush 6, 2) := by decide +kernel
theorem dX12_packed_10 : decode cX12_packed 10 = .ok (.iadd, 1) := by decide +kernel
theorem dX12_packed_11 : decode cX12_packed 11 = .ok (.if_icmp .ge 34, 3) := by decide +kernel
theorem dX12_packed_14 : decode cX12_packed 14 = .ok (.iload_n 3, 1) := by decide +kernel
theorem dX12_packed_15 : decode cX12_packed 15 = .ok (.iconst 5, 1) := by decide +kernel
theorem dX12_packed_16 : decode cX12_packed 16 = .ok (.ishl, 1) := by decide +kernel
theorem dX12_packed_17 : decode cX12_packed 17 = .ok (.iload 4, 2) := by decide +kernel
theorem dX12_packed_19 : decode cX12_packed 19 = .ok (.iload_n 2, 1) := by decide +kernel
theorem dX12_packed_20 : decode cX12_packed 20 = .ok (.if_icmp .ge 16, 3) := by decide +kernel
theorem dX12_packed_23 : decode cX12_packed 23 = .ok (.aload_n 0, 1) := by decide +kernel
theorem dX12_packed_24 : decode cX12_packed 24 = .ok (.getfield 7, 3) := by decide +kernel
theorem dX12_packed_27 : decode cX12_packed 27 = .ok (.iload 4, 2) := by decide +kernel
theorem dX12_packed_29 : decode cX12_packed 29 = .ok (.iaload, 1) := by decide +kernel
theorem dX12_packed_30 : decode cX12_packed 30 = .ok (.bipush 96, 2) := by decide +kernel
theorem dX12_packed_32 : decode cX12_packed 32 = .ok (.isub, 1) := by decide +kernel
theorem dX12_packed_33 : decode cX12_packed 33 = .ok (.goto 4, 3) := by decide +kernel
theorem dX12_packed_36 : decode cX12_packed 36 = .ok (.iconst 0, 1) := by decide +kernel
theorem dX12_packed_37 : decode cX12_packed 37 = .ok (.ior, 1) := by decide +kernel
theorem dX12_packed_38 : decode cX12_packed 38 = .ok (.istore_n 3, 1) := by decide +kernel
theorem dX12_packed_39 : decode cX12_packed 39 = .ok (.iinc 4 1, 3) := by decide +kernel
theorem dX12_packed_42 : decode cX12_packed 42 = .ok (.goto (-37), 3) := by decide +kernel
theorem dX12_packed_45 : decode cX12_packed 45 = .ok (.iload_n 3, 1) := by decide +kernel
theorem dX12_packed_46 : decode cX12_packed 46 = .ok (.ireturn, 1) := by decide +kernel
theorem dX12_isKey_0 : decode cX12_isKey 0 = .ok (.aload_n 0, 1) := by decide +kernel
theorem dX12_isKey_1 : decode cX12_isKey 1 = .ok (.getfield 157, 3) := by decide +kernel
theorem dX12_isKey_4 : decode cX12_isKey 4 = .ok (.iconst 1, 1) := by decide +kernel
theorem dX12_isKey_5 : decode cX12_isKey 5 = .ok (.if_icmp .ne 15, 3) := by decide +kernel
theorem dX12_isKey_8 : decode cX12_isKey 8 = .ok (.aload_n 0, 1) := by decide +kernel
theorem dX12_isKey_9 : decode cX12_isKey 9 = .ok (.getfield 168, 3) := by decide +kernel
theorem dX12_isKey_12 : decode cX12_isKey 12 = .ok (.iload_n 1, 1) := by decide +kernel
theorem dX12_isKey_13 : decode cX12_isKey 13 = .ok (.if_icmp .ne 7, 3) := by decide +kernel
theorem dX12_isKey_16 : decode cX12_isKey 16 = .ok (.iconst 1, 1) := by decide +kernel
theorem dX12_isKey_17 : decode cX12_isKey 17 = .ok (.goto 4, 3) := by decide +kernel
theorem dX12_isKey_20 : decode cX12_isKey 20 = .ok (.iconst 0, 1) := by decide +kernel
theorem dX12_isKey_21 : decode cX12_isKey 21 = .ok (.ireturn, 1) := by decide +kernel
theorem dX12_isSign_0 : decode cX12_isSign 0 = .ok (.aload_n 0, 1) := by decide +kernel
theorem dX12_isSign_1 : decode cX12_isSign 1 = .ok (.getfield 157, 3) := by decide +kernel
theorem dX12_isSign_4 : decode cX12_isSign 4 = .ok (.iconst 4, 1) := by decide +kernel
theorem dX12_isSign_5 : decode cX12_isSign 5 = .ok (.if_icmp .ne 15, 3) := by decide +kernel
theorem dX12_isSign_8 : decode cX12_isSign 8 = .ok (.aload_n 0, 1) := by decide +kernel
theorem dX12_isSign_9 : decode cX12_isSign 9 = .ok (.getfield 168, 3) := by decide +kernel
theorem dX12_isSign_12 : decode cX12_isSign 12 = .ok (.iload_n 1, 1) := by decide +kernel
theorem dX12_isSign_13 : decode cX12_isSign 13 = .ok (.if_icmp .ne 7, 3) := by decide +kernel
theorem dX12_isSign_16 : decode cX12_isSign 16 = .ok (.iconst 1, 1) := by decide +kernel
theorem dX12_isSign_17 : decode cX12_isSign 17 = .ok (.goto 4, 3) := by decide +kernel
theorem dX12_isSign_20 : decode cX12_isSign 20 = .ok (.iconst 0, 1) := by decide +kernel
theorem dX12_isSign_21 : decode cX12_isSign 21 = .ok (.ireturn, 1) := by decide +kernel
theorem dX12_number_0 : decode cX12_number 0 = .ok (.aload_n 0, 1) := by decide +kernel
theorem dX12_number_1 : decode cX12_number 1 = .ok (.getfield 157, 3) := by decide +kernel
theorem dX12_number_4 : decode cX12_number 4 = .ok (.iconst 3, 1) := by decide +kernel
theorem dX12_number_5 : decode cX12_number 5 = .ok (.if_icmp .eq 9, 3) := by decide +kernel
theorem dX12_number_8 : decode cX12_number 8 = .ok (.aload_n 0, 1) := by decide +kernel
theorem dX12_number_9 : decode cX12_number 9 = .ok (.iconst 1, 1) := by decide +kernel
theorem dX12_number_10 : decode cX12_number 10 = .ok (.invokevirtual 181, 3) := by decide +kernel
theorem dX12_number_13 : decode cX12_number 13 = .ok (.ireturn, 1) := by decide +kernel
theorem dX12_number_14 : decode cX12_number 14 = .ok (.aload_n 0, 1) := by decide +kernel
theorem dX12_number_15 : decode cX12_number 15 = .ok (.getfield 168, 3) := by decide +kernel
theorem dX12_number_18 : decode cX12_number 18 = .ok (.iload_n 1, 1) := by decide +kernel
theorem dX12_number_19 : decode cX12_number 19 = .ok (.iload_n 2, 1) := by decide +kernel
theorem dX12_number_20 : decode cX12_number 20 = .ok (.invokestatic 184, 3) := by decide +kernel
theorem dX12_number_23 : decode cX12_number 23 = .ok (.ifCond .ne 9, 3) := by decide +kernel
theorem dX12_number_26 : decode cX12_number 26 = .ok (.aload_n 0, 1) := by decide +kernel
theorem dX12_number_27 : decode cX12_number 27 = .ok (.iconst 2, 1) := by decide +kernel
theorem dX12_number_28 : decode cX12_number 28 = .ok (.invokevirtual 181, 3) := by decide +kernel
theorem dX12_number_31 : decode cX12_number 31 = .ok (.ireturn, 1) := by decide +kernel
theorem dX12_number_32 : decode cX12_number 32 = .ok (.aload_n 0, 1) := by decide +kernel
theorem dX12_number_33 : decode cX12_number 33 = .ok (.aload_n 0, 1) := by decide +kernel
theorem dX12_number_34 : decode cX12_number 34 = .ok (.getfield 168, 3) := by decide +kernel
theorem dX12_number_37 : decode cX12_number 37 = .ok (.putfield 188, 3) := by decide +kernel
theorem dX12_number_40 : decode cX12_number 40 = .ok (.aload_n 0, 1) := by decide +kernel
theorem dX12_number_41 : decode cX12_number 41 = .ok (.invokevirtual 191, 3) := by decide +kernel
theorem dX12_number_44 : decode cX12_number 44 = .ok (.iconst 1, 1) := by decide +kernel
theorem dX12_number_45 : decode cX12_number 45 = .ok (.ireturn, 1) := by decide +kernel
theorem dX12_plain_0 : decode cX12_plain 0 = .ok (.aload_n 0, 1) := by decide +kernel
theorem dX12_plain_1 : decode cX12_plain 1 = .ok (.iconst 0, 1) := by decide +kernel
theorem dX12_plain_2 : decode cX12_plain 2 = .ok (.putfield 201, 3) := by decide +kernel
theorem dX12_plain_5 : decode cX12_plain 5 = .ok (.aload_n 0, 1) := by decide +kernel
theorem dX12_plain_6 : decode cX12_plain 6 = .ok (.iconst 0, 1) := by decide +kernel
theorem dX12_plain_7 : decode cX12_plain 7 = .ok (.putfield 204, 3) := by decide +kernel
theorem dX12_plain_10 : decode cX12_plain 10 = .ok (.aload_n 0, 1) := by decide +kernel
theorem dX12_plain_11 : decode cX12_plain 11 = .ok (.iconst 0, 1) := by decide +kernel
theorem dX12_plain_12 : decode cX12_plain 12 = .ok (.putfield 207, 3) := by decide +kernel
theorem dX12_plain_15 : decode cX12_plain 15 = .ok (.aload_n 0, 1) := by decide +kernel
theorem dX12_plain_16 : decode cX12_plain 16 = .ok (.iconst 0, 1) := by decide +kernel
theorem dX12_plain_17 : decode cX12_plain 17 = .ok (.putfield 210, 3) := by decide +kernel
theorem dX12_plain_20 : decode cX12_plain 20 = .ok (.aload_n 0, 1) := by decide +kernel
theorem dX12_plain_21 : decode cX12_plain 21 = .ok (.iconst 0, 1) := by decide +kernel
theorem dX12_plain_22 : decode cX12_plain 22 = .ok (.putfield 213, 3) := by decide +kernel
theorem dX12_plain_25 : decode cX12_plain 25 = .ok (.aload_n 0, 1) := by decide +kernel
theorem dX12_plain_26 : decode cX12_plain 26 = .ok (.iconst 0, 1) := by decide +kernel
theorem dX12_plain_27 : decode cX12_plain 27 = .ok (.putfield 216, 3) := by decide +kernel
theorem dX12_plain_30 : decode cX12_plain 30 = .ok (.iconst 0, 1) := by decide +kernel
theorem dX12_plain_31 : decode cX12_plain 31 = .ok (.istore_n 1, 1) := by decide +kernel
theorem dX12_plain_32 : decode cX12_plain 32 = .ok (.iload_n 1, 1) := by decide +kernel
theorem dX12_plain_33 : decode cX12_plain 33 = .ok (.iconst 2, 1) := by decide +kernel
theorem dX12_plain_34 : decode cX12_plain 34 = .ok (.if_icmp .ge 25, 3) := by decide +kernel
theorem dX12_plain_37 : decode cX12_plain 37 = .ok (.aload_n 0, 1) := by decide +kernel
theorem dX12_plain_38 : decode cX12_plain 38 = .ok (.getfield 20, 3) := by decide +kernel
theorem dX12_plain_41 : decode cX12_plain 41 = .ok (.iload_n 1, 1) := by decide +kernel
theorem dX12_plain_42 : decode cX12_plain 42 = .ok (.iconst 0, 1) := by decide +kernel
theorem dX12_plain_43 : decode cX12_plain 43 = .ok (.bastore, 1) := by decide +kernel
theorem dX12_plain_44 : decode cX12_plain 44 = .ok (.aload_n 0, 1) := by decide +kernel
theorem dX12_plain_45 : decode cX12_plain 45 = .ok (.getfield 24, 3) := by decide +kernel
theorem dX12_plain_48 : decode cX12_plain 48 = .ok (.iconst 2, 1) := by decide +kernel
theorem dX12_plain_49 : decode cX12_plain 49 = .ok (.iload_n 1, 1) := by decide +kernel
theorem dX12_plain_50 : decode cX12_plain 50 = .ok (.iadd, 1) := by decide +kernel
theorem dX12_plain_51 : decode cX12_plain 51 = .ok (.iconst 0, 1) := by decide +kernel
theorem dX12_plain_52 : decode cX12_plain 52 = .ok (.iastore, 1) := by decide +kernel
theorem dX12_plain_53 : decode cX12_plain 53 = .ok (.iinc 1 1, 3) := by decide +kernel
theorem dX12_plain_56 : decode cX12_plain 56 = .ok (.goto (-24), 3) := by decide +kernel
theorem dX12_plain_59 : decode cX12_plain 59 = .ok (.iconst 3, 1) := by decide +kernel
theorem dX12_plain_60 : decode cX12_plain 60 = .ok (.istore_n 1, 1) := by decide +kernel
theorem dX12_plain_61 : decode cX12_plain 61 = .ok (.iload_n 1, 1) := by decide +kernel
theorem dX12_plain_62 : decode cX12_plain 62 = .ok (.bipush 6, 2) := by decide +kernel
theorem dX12_plain_64 : decode cX12_plain 64 = .ok (.if_icmp .ge 16, 3) := by decide +kernel
theorem dX12_plain_67 : decode cX12_plain 67 = .ok (.aload_n 0, 1) := by decide +kernel
theorem dX12_plain_68 : decode cX12_plain 68 = .ok (.getfield 54, 3) := by decide +kernel
theorem dX12_plain_71 : decode cX12_plain 71 = .ok (.iload_n 1, 1) := by decide +kernel
theorem dX12_plain_72 : decode cX12_plain 72 = .ok (.iconst 0, 1) := by decide +kernel
theorem dX12_plain_73 : decode cX12_plain 73 = .ok (.bastore, 1) := by decide +kernel
theorem dX12_plain_74 : decode cX12_plain 74 = .ok (.iinc 1 1, 3) := by decide +kernel
theorem dX12_plain_77 : decode cX12_plain 77 = .ok (.goto (-16), 3) := by decide +kernel
theorem dX12_plain_80 : decode cX12_plain 80 = .ok (.bipush 6, 2) := by decide +kernel
theorem dX12_plain_82 : decode cX12_plain 82 = .ok (.istore_n 1, 1) := by decide +kernel
theorem dX12_plain_83 : decode cX12_plain 83 = .ok (.iload_n 1, 1) := by decide +kernel
theorem dX12_plain_84 : decode cX12_plain 84 = .ok (.bipush 12, 2) := by decide +kernel
theorem dX12_plain_86 : decode cX12_plain 86 = .ok (.if_icmp .ge 23, 3) := by decide +kernel
theorem dX12_plain_89 : decode cX12_plain 89 = .ok (.aload_n 0, 1) := by decide +kernel
theorem dX12_plain_90 : decode cX12_plain 90 = .ok (.getfield 39, 3) := by decide +kernel
theorem dX12_plain_93 : decode cX12_plain 93 = .ok (.iload_n 1, 1) := by decide +kernel
theorem dX12_plain_94 : decode cX12_plain 94 = .ok (.iconst 0, 1) := by decide +kernel
theorem dX12_plain_95 : decode cX12_plain 95 = .ok (.iastore, 1) := by decide +kernel
theorem dX12_plain_96 : decode cX12_plain 96 = .ok (.aload_n 0, 1) := by decide +kernel
theorem dX12_plain_97 : decode cX12_plain 97 = .ok (.getfield 42, 3) := by decide +kernel
theorem dX12_plain_100 : decode cX12_plain 100 = .ok (.iload_n 1, 1) := by decide +kernel
theorem dX12_plain_101 : decode cX12_plain 101 = .ok (.iconst 0, 1) := by decide +kernel
theorem dX12_plain_102 : decode cX12_plain 102 = .ok (.iastore, 1) := by decide +kernel
theorem dX12_plain_103 : decode cX12_plain 103 = .ok (.iinc 1 1, 3) := by decide +kernel
theorem dX12_plain_106 : decode cX12_plain 106 = .ok (.goto (-23), 3) := by decide +kernel
theorem dX12_plain_109 : decode cX12_plain 109 = .ok (.return_, 1) := by decide +kernel
theorem dX12_copies_0 : decode cX12_copies 0 = .ok (.iconst 0, 1) := by decide +kernel
theorem dX12_copies_1 : decode cX12_copies 1 = .ok (.istore_n 2, 1) := by decide +kernel
theorem dX12_copies_2 : decode cX12_copies 2 = .ok (.iload_n 2, 1) := by decide +kernel
theorem dX12_copies_3 : decode cX12_copies 3 = .ok (.iload_n 1, 1) := by decide +kernel
theorem dX12_copies_4 : decode cX12_copies 4 = .ok (.if_icmp .ge 17, 3) := by decide +kernel
theorem dX12_copies_7 : decode cX12_copies 7 = .ok (.aload_n 0, 1) := by decide +kernel
theorem dX12_copies_8 : decode cX12_copies 8 = .ok (.iload_n 2, 1) := by decide +kernel
theorem dX12_copies_9 : decode cX12_copies 9 = .ok (.aload_n 0, 1) := by decide +kernel
theorem dX12_copies_10 : decode cX12_copies 10 = .ok (.iload_n 1, 1) := by decide +kernel
theorem dX12_copies_11 : decode cX12_copies 11 = .ok (.iload_n 2, 1) := by decide +kernel
theorem dX12_copies_12 : decode cX12_copies 12 = .ok (.iadd, 1) := by decide +kernel
theorem dX12_copies_13 : decode cX12_copies 13 = .ok (.iaload, 1) := by decide +kernel
theorem dX12_copies_14 : decode cX12_copies 14 = .ok (.iastore, 1) := by decide +kernel
theorem dX12_copies_15 : decode cX12_copies 15 = .ok (.iinc 2 1, 3) := by decide +kernel
theorem dX12_copies_18 : decode cX12_copies 18 = .ok (.goto (-16), 3) := by decide +kernel
theorem dX12_copies_21 : decode cX12_copies 21 = .ok (.return_, 1) := by decide +kernel
theorem dX12_keepText_0 : decode cX12_keepText 0 = .ok (.aload_n 0, 1) := by decide +kernel
theorem dX12_keepText_1 : decode cX12_keepText 1 = .ok (.aload_n 0, 1) := by decide +kernel
theorem dX12_keepText_2 : decode cX12_keepText 2 = .ok (.getfield 201, 3) := by decide +kernel
theorem dX12_keepText_5 : decode cX12_keepText 5 = .ok (.putfield 219, 3) := by decide +kernel
theorem dX12_keepText_8 : decode cX12_keepText 8 = .ok (.aload_n 0, 1) := by decide +kernel
theorem dX12_keepText_9 : decode cX12_keepText 9 = .ok (.aload_n 0, 1) := by decide +kernel
theorem dX12_keepText_10 : decode cX12_keepText 10 = .ok (.getfield 207, 3) := by decide +kernel
theorem dX12_keepText_13 : decode cX12_keepText 13 = .ok (.putfield 222, 3) := by decide +kernel
theorem dX12_keepText_16 : decode cX12_keepText 16 = .ok (.aload_n 0, 1) := by decide +kernel
theorem dX12_keepText_17 : decode cX12_keepText 17 = .ok (.aload_n 0, 1) := by decide +kernel
theorem dX12_keepText_18 : decode cX12_keepText 18 = .ok (.getfield 210, 3) := by decide +kernel
theorem dX12_keepText_21 : decode cX12_keepText 21 = .ok (.putfield 225, 3) := by decide +kernel
theorem dX12_keepText_24 : decode cX12_keepText 24 = .ok (.aload_n 0, 1) := by decide +kernel
theorem dX12_keepText_25 : decode cX12_keepText 25 = .ok (.aload_n 0, 1) := by decide +kernel
theorem dX12_keepText_26 : decode cX12_keepText 26 = .ok (.getfield 213, 3) := by decide +kernel
theorem dX12_keepText_29 : decode cX12_keepText 29 = .ok (.putfield 228, 3) := by decide +kernel
theorem dX12_keepText_32 : decode cX12_keepText 32 = .ok (.aload_n 0, 1) := by decide +kernel
theorem dX12_keepText_33 : decode cX12_keepText 33 = .ok (.getfield 24, 3) := by decide +kernel
theorem dX12_keepText_36 : decode cX12_keepText 36 = .ok (.iconst 2, 1) := by decide +kernel
theorem dX12_keepText_37 : decode cX12_keepText 37 = .ok (.invokestatic 231, 3) := by decide +kernel
theorem dX12_keepText_40 : decode cX12_keepText 40 = .ok (.aload_n 0, 1) := by decide +kernel
theorem dX12_keepText_41 : decode cX12_keepText 41 = .ok (.getfield 27, 3) := by decide +kernel
theorem dX12_keepText_44 : decode cX12_keepText 44 = .ok (.bipush 6, 2) := by decide +kernel
theorem dX12_keepText_46 : decode cX12_keepText 46 = .ok (.invokestatic 231, 3) := by decide +kernel
theorem dX12_keepText_49 : decode cX12_keepText 49 = .ok (.aload_n 0, 1) := by decide +kernel
theorem dX12_keepText_50 : decode cX12_keepText 50 = .ok (.getfield 30, 3) := by decide +kernel
theorem dX12_keepText_53 : decode cX12_keepText 53 = .ok (.bipush 6, 2) := by decide +kernel
theorem dX12_keepText_55 : decode cX12_keepText 55 = .ok (.invokestatic 231, 3) := by decide +kernel
theorem dX12_keepText_58 : decode cX12_keepText 58 = .ok (.aload_n 0, 1) := by decide +kernel
theorem dX12_keepText_59 : decode cX12_keepText 59 = .ok (.getfield 33, 3) := by decide +kernel
theorem dX12_keepText_62 : decode cX12_keepText 62 = .ok (.bipush 6, 2) := by decide +kernel
theorem dX12_keepText_64 : decode cX12_keepText 64 = .ok (.invokestatic 231, 3) := by decide +kernel
theorem dX12_keepText_67 : decode cX12_keepText 67 = .ok (.aload_n 0, 1) := by decide +kernel
theorem dX12_keepText_68 : decode cX12_keepText 68 = .ok (.getfield 36, 3) := by decide +kernel
theorem dX12_keepText_71 : decode cX12_keepText 71 = .ok (.bipush 48, 2) := by decide +kernel
theorem dX12_keepText_73 : decode cX12_keepText 73 = .ok (.invokestatic 231, 3) := by decide +kernel
theorem dX12_keepText_76 : decode cX12_keepText 76 = .ok (.aload_n 0, 1) := by decide +kernel
theorem dX12_keepText_77 : decode cX12_keepText 77 = .ok (.getfield 39, 3) := by decide +kernel
theorem dX12_keepText_80 : decode cX12_keepText 80 = .ok (.bipush 6, 2) := by decide +kernel
theorem dX12_keepText_82 : decode cX12_keepText 82 = .ok (.invokestatic 231, 3) := by decide +kernel
theorem dX12_keepText_85 : decode cX12_keepText 85 = .ok (.aload_n 0, 1) := by decide +kernel
theorem dX12_keepText_86 : decode cX12_keepText 86 = .ok (.getfield 42, 3) := by decide +kernel
theorem dX12_keepText_89 : decode cX12_keepText 89 = .ok (.bipush 6, 2) := by decide +kernel
theorem dX12_keepText_91 : decode cX12_keepText 91 = .ok (.invokestatic 231, 3) := by decide +kernel
theorem dX12_keepText_94 : decode cX12_keepText 94 = .ok (.aload_n 0, 1) := by decide +kernel
theorem dX12_keepText_95 : decode cX12_keepText 95 = .ok (.getfield 45, 3) := by decide +kernel
theorem dX12_keepText_98 : decode cX12_keepText 98 = .ok (.iconst 5, 1) := by decide +kernel
theorem dX12_keepText_99 : decode cX12_keepText 99 = .ok (.invokestatic 231, 3) := by decide +kernel
theorem dX12_keepText_102 : decode cX12_keepText 102 = .ok (.aload_n 0, 1) := by decide +kernel
theorem dX12_keepText_103 : decode cX12_keepText 103 = .ok (.getfield 48, 3) := by decide +kernel
theorem dX12_keepText_106 : decode cX12_keepText 106 = .ok (.iconst 5, 1) := by decide +kernel
theorem dX12_keepText_107 : decode cX12_keepText 107 = .ok (.invokestatic 231, 3) := by decide +kernel
theorem dX12_keepText_110 : decode cX12_keepText 110 = .ok (.aload_n 0, 1) := by decide +kernel
theorem dX12_keepText_111 : decode cX12_keepText 111 = .ok (.getfield 51, 3) := by decide +kernel
theorem dX12_keepText_114 : decode cX12_keepText 114 = .ok (.iconst 5, 1) := by decide +kernel
theorem dX12_keepText_115 : decode cX12_keepText 115 = .ok (.invokestatic 231, 3) := by decide +kernel
theorem dX12_keepText_118 : decode cX12_keepText 118 = .ok (.iconst 0, 1) := by decide +kernel
theorem dX12_keepText_119 : decode cX12_keepText 119 = .ok (.istore_n 1, 1) := by decide +kernel
theorem dX12_keepText_120 : decode cX12_keepText 120 = .ok (.iload_n 1, 1) := by decide +kernel
theorem dX12_keepText_121 : decode cX12_keepText 121 = .ok (.iconst 3, 1) := by decide +kernel
theorem dX12_keepText_122 : decode cX12_keepText 122 = .ok (.if_icmp .ge 23, 3) := by decide +kernel
theorem dX12_keepText_125 : decode cX12_keepText 125 = .ok (.aload_n 0, 1) := by decide +kernel
theorem dX12_keepText_126 : decode cX12_keepText 126 = .ok (.getfield 54, 3) := by decide +kernel
theorem dX12_keepText_129 : decode cX12_keepText 129 = .ok (.iload_n 1, 1) := by decide +kernel
theorem dX12_keepText_130 : decode cX12_keepText 130 = .ok (.aload_n 0, 1) := by decide +kernel
theorem dX12_keepText_131 : decode cX12_keepText 131 = .ok (.getfield 54, 3) := by decide +kernel
theorem dX12_keepText_134 : decode cX12_keepText 134 = .ok (.iconst 3, 1) := by decide +kernel
theorem dX12_keepText_135 : decode cX12_keepText 135 = .ok (.iload_n 1, 1) := by decide +kernel
theorem dX12_keepText_136 : decode cX12_keepText 136 = .ok (.iadd, 1) := by decide +kernel
theorem dX12_keepText_137 : decode cX12_keepText 137 = .ok (.baload, 1) := by decide +kernel
theorem dX12_keepText_138 : decode cX12_keepText 138 = .ok (.bastore, 1) := by decide +kernel
theorem dX12_keepText_139 : decode cX12_keepText 139 = .ok (.iinc 1 1, 3) := by decide +kernel
theorem dX12_keepText_142 : decode cX12_keepText 142 = .ok (.goto (-22), 3) := by decide +kernel
theorem dX12_keepText_145 : decode cX12_keepText 145 = .ok (.aload_n 0, 1) := by decide +kernel
theorem dX12_keepText_146 : decode cX12_keepText 146 = .ok (.getfield 57, 3) := by decide +kernel
theorem dX12_keepText_149 : decode cX12_keepText 149 = .ok (.iconst 3, 1) := by decide +kernel
theorem dX12_keepText_150 : decode cX12_keepText 150 = .ok (.invokestatic 231, 3) := by decide +kernel
theorem dX12_keepText_153 : decode cX12_keepText 153 = .ok (.aload_n 0, 1) := by decide +kernel
theorem dX12_keepText_154 : decode cX12_keepText 154 = .ok (.getfield 60, 3) := by decide +kernel
theorem dX12_keepText_157 : decode cX12_keepText 157 = .ok (.iconst 3, 1) := by decide +kernel
theorem dX12_keepText_158 : decode cX12_keepText 158 = .ok (.invokestatic 231, 3) := by decide +kernel
theorem dX12_keepText_161 : decode cX12_keepText 161 = .ok (.aload_n 0, 1) := by decide +kernel
theorem dX12_keepText_162 : decode cX12_keepText 162 = .ok (.getfield 63, 3) := by decide +kernel
theorem dX12_keepText_165 : decode cX12_keepText 165 = .ok (.bipush 64, 2) := by decide +kernel
theorem dX12_keepText_167 : decode cX12_keepText 167 = .ok (.invokestatic 231, 3) := by decide +kernel
theorem dX12_keepText_170 : decode cX12_keepText 170 = .ok (.aload_n 0, 1) := by decide +kernel
theorem dX12_keepText_171 : decode cX12_keepText 171 = .ok (.getfield 66, 3) := by decide +kernel
theorem dX12_keepText_174 : decode cX12_keepText 174 = .ok (.bipush 64, 2) := by decide +kernel
theorem dX12_keepText_176 : decode cX12_keepText 176 = .ok (.invokestatic 231, 3) := by decide +kernel
theorem dX12_keepText_179 : decode cX12_keepText 179 = .ok (.aload_n 0, 1) := by decide +kernel
theorem dX12_keepText_180 : decode cX12_keepText 180 = .ok (.getfield 69, 3) := by decide +kernel
theorem dX12_keepText_183 : decode cX12_keepText 183 = .ok (.bipush 64, 2) := by decide +kernel
theorem dX12_keepText_185 : decode cX12_keepText 185 = .ok (.invokestatic 231, 3) := by decide +kernel
theorem dX12_keepText_188 : decode cX12_keepText 188 = .ok (.aload_n 0, 1) := by decide +kernel
theorem dX12_keepText_189 : decode cX12_keepText 189 = .ok (.invokevirtual 235, 3) := by decide +kernel
theorem dX12_keepText_192 : decode cX12_keepText 192 = .ok (.return_, 1) := by decide +kernel
theorem dX12_seek_0 : decode cX12_seek 0 = .ok (.iconst 0, 1) := by decide +kernel
theorem dX12_seek_1 : decode cX12_seek 1 = .ok (.istore 4, 2) := by decide +kernel
theorem dX12_seek_3 : decode cX12_seek 3 = .ok (.iload 4, 2) := by decide +kernel
theorem dX12_seek_5 : decode cX12_seek 5 = .ok (.iload_n 2, 1) := by decide +kernel
theorem dX12_seek_6 : decode cX12_seek 6 = .ok (.if_icmp .ge 22, 3) := by decide +kernel
theorem dX12_seek_9 : decode cX12_seek 9 = .ok (.aload_n 0, 1) := by decide +kernel
theorem dX12_seek_10 : decode cX12_seek 10 = .ok (.iload_n 1, 1) := by decide +kernel
theorem dX12_seek_11 : decode cX12_seek 11 = .ok (.iload 4, 2) := by decide +kernel
theorem dX12_seek_13 : decode cX12_seek 13 = .ok (.iadd, 1) := by decide +kernel
theorem dX12_seek_14 : decode cX12_seek 14 = .ok (.iaload, 1) := by decide +kernel
theorem dX12_seek_15 : decode cX12_seek 15 = .ok (.iload_n 3, 1) := by decide +kernel
theorem dX12_seek_16 : decode cX12_seek 16 = .ok (.if_icmp .ne 6, 3) := by decide +kernel
theorem dX12_seek_19 : decode cX12_seek 19 = .ok (.iload 4, 2) := by decide +kernel
theorem dX12_seek_21 : decode cX12_seek 21 = .ok (.ireturn, 1) := by decide +kernel
theorem dX12_seek_22 : decode cX12_seek 22 = .ok (.iinc 4 1, 3) := by decide +kernel
theorem dX12_seek_25 : decode cX12_seek 25 = .ok (.goto (-22), 3) := by decide +kernel
theorem dX12_seek_28 : decode cX12_seek 28 = .ok (.iconst (-1), 1) := by decide +kernel
theorem dX12_seek_29 : decode cX12_seek 29 = .ok (.ireturn, 1) := by decide +kernel
theorem dX12_newName_0 : decode cX12_newName 0 = .ok (.aload_n 0, 1) := by decide +kernel
theorem dX12_newName_1 : decode cX12_newName 1 = .ok (.getfield 157, 3) := by decide +kernel
theorem dX12_newName_4 : decode cX12_newName 4 = .ok (.iconst 2, 1) := by decide +kernel
theorem dX12_newName_5 : decode cX12_newName 5 = .ok (.if_icmp .eq 9, 3) := by decide +kernel
theorem dX12_newName_8 : decode cX12_newName 8 = .ok (.aload_n 0, 1) := by decide +kernel
theorem dX12_newName_9 : decode cX12_newName 9 = .ok (.iconst 1, 1) := by decide +kernel
theorem dX12_newName_10 : decode cX12_newName 10 = .ok (.invokevirtual 181, 3) := by decide +kernel
theorem dX12_newName_13 : decode cX12_newName 13 = .ok (.ireturn, 1) := by decide +kernel
theorem dX12_newName_14 : decode cX12_newName 14 = .ok (.aload_n 1, 1) := by decide +kernel
theorem dX12_newName_15 : decode cX12_newName 15 = .ok (.iload_n 2, 1) := by decide +kernel
theorem dX12_newName_16 : decode cX12_newName 16 = .ok (.iload_n 3, 1) := by decide +kernel
theorem dX12_newName_17 : decode cX12_newName 17 = .ok (.aload_n 0, 1) := by decide +kernel
theorem dX12_newName_18 : decode cX12_newName 18 = .ok (.getfield 168, 3) := by decide +kernel
theorem dX12_newName_21 : decode cX12_newName 21 = .ok (.invokestatic 238, 3) := by decide +kernel
theorem dX12_newName_24 : decode cX12_newName 24 = .ok (.ifCond .lt 9, 3) := by decide +kernel
theorem dX12_newName_27 : decode cX12_newName 27 = .ok (.aload_n 0, 1) := by decide +kernel
theorem dX12_newName_28 : decode cX12_newName 28 = .ok (.iconst 3, 1) := by decide +kernel
theorem dX12_newName_29 : decode cX12_newName 29 = .ok (.invokevirtual 181, 3) := by decide +kernel
theorem dX12_newName_32 : decode cX12_newName 32 = .ok (.ireturn, 1) := by decide +kernel
theorem dX12_newName_33 : decode cX12_newName 33 = .ok (.aload_n 1, 1) := by decide +kernel
theorem dX12_newName_34 : decode cX12_newName 34 = .ok (.iload_n 2, 1) := by decide +kernel
theorem dX12_newName_35 : decode cX12_newName 35 = .ok (.iload_n 3, 1) := by decide +kernel
theorem dX12_newName_36 : decode cX12_newName 36 = .ok (.iadd, 1) := by decide +kernel
theorem dX12_newName_37 : decode cX12_newName 37 = .ok (.aload_n 0, 1) := by decide +kernel
theorem dX12_newName_38 : decode cX12_newName 38 = .ok (.getfield 168, 3) := by decide +kernel
theorem dX12_newName_41 : decode cX12_newName 41 = .ok (.iastore, 1) := by decide +kernel
theorem dX12_newName_42 : decode cX12_newName 42 = .ok (.aload_n 0, 1) := by decide +kernel
theorem dX12_newName_43 : decode cX12_newName 43 = .ok (.invokevirtual 191, 3) := by decide +kernel
theorem dX12_newName_46 : decode cX12_newName 46 = .ok (.iconst 1, 1) := by decide +kernel
theorem dX12_newName_47 : decode cX12_newName 47 = .ok (.ireturn, 1) := by decide +kernel
theorem dX12_boxThere_0 : decode cX12_boxThere 0 = .ok (.aload_n 0, 1) := by decide +kernel
theorem dX12_boxThere_1 : decode cX12_boxThere 1 = .ok (.getfield 157, 3) := by decide +kernel
theorem dX12_boxThere_4 : decode cX12_boxThere 4 = .ok (.iconst 2, 1) := by decide +kernel
theorem dX12_boxThere_5 : decode cX12_boxThere 5 = .ok (.if_icmp .eq 9, 3) := by decide +kernel
theorem dX12_boxThere_8 : decode cX12_boxThere 8 = .ok (.aload_n 0, 1) := by decide +kernel
theorem dX12_boxThere_9 : decode cX12_boxThere 9 = .ok (.iconst 1, 1) := by decide +kernel
theorem dX12_boxThere_10 : decode cX12_boxThere 10 = .ok (.invokevirtual 181, 3) := by decide +kernel
theorem dX12_boxThere_13 : decode cX12_boxThere 13 = .ok (.ireturn, 1) := by decide +kernel
theorem dX12_boxThere_14 : decode cX12_boxThere 14 = .ok (.aload_n 0, 1) := by decide +kernel
theorem dX12_boxThere_15 : decode cX12_boxThere 15 = .ok (.getfield 27, 3) := by decide +kernel
theorem dX12_boxThere_18 : decode cX12_boxThere 18 = .ok (.bipush 6, 2) := by decide +kernel
theorem dX12_boxThere_20 : decode cX12_boxThere 20 = .ok (.aload_n 0, 1) := by decide +kernel
theorem dX12_boxThere_21 : decode cX12_boxThere 21 = .ok (.getfield 201, 3) := by decide +kernel
theorem dX12_boxThere_24 : decode cX12_boxThere 24 = .ok (.aload_n 0, 1) := by decide +kernel
theorem dX12_boxThere_25 : decode cX12_boxThere 25 = .ok (.getfield 168, 3) := by decide +kernel
theorem dX12_boxThere_28 : decode cX12_boxThere 28 = .ok (.invokestatic 238, 3) := by decide +kernel
theorem dX12_boxThere_31 : decode cX12_boxThere 31 = .ok (.istore_n 1, 1) := by decide +kernel
theorem dX12_boxThere_32 : decode cX12_boxThere 32 = .ok (.iload_n 1, 1) := by decide +kernel
theorem dX12_boxThere_33 : decode cX12_boxThere 33 = .ok (.ifCond .ge 9, 3) := by decide +kernel
theorem dX12_boxThere_36 : decode cX12_boxThere 36 = .ok (.aload_n 0, 1) := by decide +kernel
theorem dX12_boxThere_37 : decode cX12_boxThere 37 = .ok (.iconst 4, 1) := by decide +kernel
theorem dX12_boxThere_38 : decode cX12_boxThere 38 = .ok (.invokevirtual 181, 3) := by decide +kernel
theorem dX12_boxThere_41 : decode cX12_boxThere 41 = .ok (.ireturn, 1) := by decide +kernel
theorem dX12_boxThere_42 : decode cX12_boxThere 42 = .ok (.aload_n 0, 1) := by decide +kernel
theorem dX12_boxThere_43 : decode cX12_boxThere 43 = .ok (.invokevirtual 191, 3) := by decide +kernel
theorem dX12_boxThere_46 : decode cX12_boxThere 46 = .ok (.aload_n 0, 1) := by decide +kernel
theorem dX12_boxThere_47 : decode cX12_boxThere 47 = .ok (.iload_n 1, 1) := by decide +kernel
theorem dX12_boxThere_48 : decode cX12_boxThere 48 = .ok (.putfield 188, 3) := by decide +kernel
theorem dX12_boxThere_51 : decode cX12_boxThere 51 = .ok (.iconst 1, 1) := by decide +kernel
theorem dX12_boxThere_52 : decode cX12_boxThere 52 = .ok (.ireturn, 1) := by decide +kernel
theorem dX12_boxLine_0 : decode cX12_boxLine 0 = .ok (.aload_n 0, 1) := by decide +kernel
theorem dX12_boxLine_1 : decode cX12_boxLine 1 = .ok (.getfield 201, 3) := by decide +kernel
theorem dX12_boxLine_4 : decode cX12_boxLine 4 = .ok (.bipush 6, 2) := by decide +kernel
theorem dX12_boxLine_6 : decode cX12_boxLine 6 = .ok (.if_icmp .ne 9, 3) := by decide +kernel
theorem dX12_boxLine_9 : decode cX12_boxLine 9 = .ok (.aload_n 0, 1) := by decide +kernel
theorem dX12_boxLine_10 : decode cX12_boxLine 10 = .ok (.iconst 2, 1) := by decide +kernel
theorem dX12_boxLine_11 : decode cX12_boxLine 11 = .ok (.invokevirtual 181, 3) := by decide +kernel
theorem dX12_boxLine_14 : decode cX12_boxLine 14 = .ok (.ireturn, 1) := by decide +kernel
theorem dX12_boxLine_15 : decode cX12_boxLine 15 = .ok (.aload_n 0, 1) := by decide +kernel
theorem dX12_boxLine_16 : decode cX12_boxLine 16 = .ok (.invokevirtual 191, 3) := by decide +kernel
theorem dX12_boxLine_19 : decode cX12_boxLine 19 = .ok (.aload_n 0, 1) := by decide +kernel
theorem dX12_boxLine_20 : decode cX12_boxLine 20 = .ok (.aload_n 0, 1) := by decide +kernel
theorem dX12_boxLine_21 : decode cX12_boxLine 21 = .ok (.getfield 27, 3) := by decide +kernel
theorem dX12_boxLine_24 : decode cX12_boxLine 24 = .ok (.bipush 6, 2) := by decide +kernel
theorem dX12_boxLine_26 : decode cX12_boxLine 26 = .ok (.aload_n 0, 1) := by decide +kernel
theorem dX12_boxLine_27 : decode cX12_boxLine 27 = .ok (.getfield 201, 3) := by decide +kernel
theorem dX12_boxLine_30 : decode cX12_boxLine 30 = .ok (.invokevirtual 242, 3) := by decide +kernel
theorem dX12_boxLine_33 : decode cX12_boxLine 33 = .ok (.ifCond .ne 5, 3) := by decide +kernel
theorem dX12_boxLine_36 : decode cX12_boxLine 36 = .ok (.iconst 0, 1) := by decide +kernel
theorem dX12_boxLine_37 : decode cX12_boxLine 37 = .ok (.ireturn, 1) := by decide +kernel
theorem dX12_boxLine_38 : decode cX12_boxLine 38 = .ok (.aload_n 0, 1) := by decide +kernel
theorem dX12_boxLine_39 : decode cX12_boxLine 39 = .ok (.iconst 0, 1) := by decide +kernel
theorem dX12_boxLine_40 : decode cX12_boxLine 40 = .ok (.bipush 99, 2) := by decide +kernel
theorem dX12_boxLine_42 : decode cX12_boxLine 42 = .ok (.invokevirtual 197, 3) := by decide +kernel
theorem dX12_boxLine_45 : decode cX12_boxLine 45 = .ok (.ifCond .ne 5, 3) := by decide +kernel
theorem dX12_boxLine_48 : decode cX12_boxLine 48 = .ok (.iconst 0, 1) := by decide +kernel
theorem dX12_boxLine_49 : decode cX12_boxLine 49 = .ok (.ireturn, 1) := by decide +kernel
theorem dX12_boxLine_50 : decode cX12_boxLine 50 = .ok (.aload_n 0, 1) := by decide +kernel
theorem dX12_boxLine_51 : decode cX12_boxLine 51 = .ok (.getfield 30, 3) := by decide +kernel
theorem dX12_boxLine_54 : decode cX12_boxLine 54 = .ok (.bipush 6, 2) := by decide +kernel
theorem dX12_boxLine_56 : decode cX12_boxLine 56 = .ok (.aload_n 0, 1) := by decide +kernel
theorem dX12_boxLine_57 : decode cX12_boxLine 57 = .ok (.getfield 201, 3) := by decide +kernel
theorem dX12_boxLine_60 : decode cX12_boxLine 60 = .ok (.iadd, 1) := by decide +kernel
theorem dX12_boxLine_61 : decode cX12_boxLine 61 = .ok (.aload_n 0, 1) := by decide +kernel
theorem dX12_boxLine_62 : decode cX12_boxLine 62 = .ok (.getfield 188, 3) := by decide +kernel
theorem dX12_boxLine_65 : decode cX12_boxLine 65 = .ok (.iastore, 1) := by decide +kernel
theorem dX12_boxLine_66 : decode cX12_boxLine 66 = .ok (.aload_n 0, 1) := by decide +kernel
theorem dX12_boxLine_67 : decode cX12_boxLine 67 = .ok (.iconst 1, 1) := by decide +kernel
theorem dX12_boxLine_68 : decode cX12_boxLine 68 = .ok (.bipush 9, 2) := by decide +kernel
theorem dX12_boxLine_70 : decode cX12_boxLine 70 = .ok (.invokevirtual 197, 3) := by decide +kernel
theorem dX12_boxLine_73 : decode cX12_boxLine 73 = .ok (.ifCond .ne 5, 3) := by decide +kernel
theorem dX12_boxLine_76 : decode cX12_boxLine 76 = .ok (.iconst 0, 1) := by decide +kernel
theorem dX12_boxLine_77 : decode cX12_boxLine 77 = .ok (.ireturn, 1) := by decide +kernel
theorem dX12_boxLine_78 : decode cX12_boxLine 78 = .ok (.aload_n 0, 1) := by decide +kernel
theorem dX12_boxLine_79 : decode cX12_boxLine 79 = .ok (.getfield 33, 3) := by decide +kernel
theorem dX12_boxLine_82 : decode cX12_boxLine 82 = .ok (.bipush 6, 2) := by decide +kernel
theorem dX12_boxLine_84 : decode cX12_boxLine 84 = .ok (.aload_n 0, 1) := by decide +kernel
theorem dX12_boxLine_85 : decode cX12_boxLine 85 = .ok (.getfield 201, 3) := by decide +kernel
theorem dX12_boxLine_88 : decode cX12_boxLine 88 = .ok (.iadd, 1) := by decide +kernel
theorem dX12_boxLine_89 : decode cX12_boxLine 89 = .ok (.aload_n 0, 1) := by decide +kernel
theorem dX12_boxLine_90 : decode cX12_boxLine 90 = .ok (.getfield 188, 3) := by decide +kernel
theorem dX12_boxLine_93 : decode cX12_boxLine 93 = .ok (.iastore, 1) := by decide +kernel
theorem dX12_boxLine_94 : decode cX12_boxLine 94 = .ok (.iconst 0, 1) := by decide +kernel
theorem dX12_boxLine_95 : decode cX12_boxLine 95 = .ok (.istore_n 1, 1) := by decide +kernel
theorem dX12_boxLine_96 : decode cX12_boxLine 96 = .ok (.iload_n 1, 1) := by decide +kernel
theorem dX12_boxLine_97 : decode cX12_boxLine 97 = .ok (.bipush 8, 2) := by decide +kernel
theorem dX12_boxLine_99 : decode cX12_boxLine 99 = .ok (.if_icmp .ge 42, 3) := by decide +kernel
theorem dX12_boxLine_102 : decode cX12_boxLine 102 = .ok (.aload_n 0, 1) := by decide +kernel
theorem dX12_boxLine_103 : decode cX12_boxLine 103 = .ok (.iconst 0, 1) := by decide +kernel
theorem dX12_boxLine_104 : decode cX12_boxLine 104 = .ok (.bipush 9, 2) := by decide +kernel
theorem dX12_boxLine_106 : decode cX12_boxLine 106 = .ok (.invokevirtual 197, 3) := by decide +kernel
theorem dX12_boxLine_109 : decode cX12_boxLine 109 = .ok (.ifCond .ne 5, 3) := by decide +kernel
theorem dX12_boxLine_112 : decode cX12_boxLine 112 = .ok (.iconst 0, 1) := by decide +kernel
theorem dX12_boxLine_113 : decode cX12_boxLine 113 = .ok (.ireturn, 1) := by decide +kernel
theorem dX12_boxLine_114 : decode cX12_boxLine 114 = .ok (.aload_n 0, 1) := by decide +kernel
theorem dX12_boxLine_115 : decode cX12_boxLine 115 = .ok (.getfield 36, 3) := by decide +kernel
theorem dX12_boxLine_118 : decode cX12_boxLine 118 = .ok (.bipush 48, 2) := by decide +kernel
theorem dX12_boxLine_120 : decode cX12_boxLine 120 = .ok (.bipush 8, 2) := by decide +kernel
theorem dX12_boxLine_122 : decode cX12_boxLine 122 = .ok (.aload_n 0, 1) := by decide +kernel
theorem dX12_boxLine_123 : decode cX12_boxLine 123 = .ok (.getfield 201, 3) := by decide +kernel
theorem dX12_boxLine_126 : decode cX12_boxLine 126 = .ok (.imul, 1) := by decide +kernel
theorem dX12_boxLine_127 : decode cX12_boxLine 127 = .ok (.iadd, 1) := by decide +kernel
theorem dX12_boxLine_128 : decode cX12_boxLine 128 = .ok (.iload_n 1, 1) := by decide +kernel
theorem dX12_boxLine_129 : decode cX12_boxLine 129 = .ok (.iadd, 1) := by decide +kernel
theorem dX12_boxLine_130 : decode cX12_boxLine 130 = .ok (.aload_n 0, 1) := by decide +kernel
theorem dX12_boxLine_131 : decode cX12_boxLine 131 = .ok (.getfield 188, 3) := by decide +kernel
theorem dX12_boxLine_134 : decode cX12_boxLine 134 = .ok (.iastore, 1) := by decide +kernel
theorem dX12_boxLine_135 : decode cX12_boxLine 135 = .ok (.iinc 1 1, 3) := by decide +kernel
theorem dX12_boxLine_138 : decode cX12_boxLine 138 = .ok (.goto (-42), 3) := by decide +kernel
theorem dX12_boxLine_141 : decode cX12_boxLine 141 = .ok (.aload_n 0, 1) := by decide +kernel
theorem dX12_boxLine_142 : decode cX12_boxLine 142 = .ok (.dup, 1) := by decide +kernel
theorem dX12_boxLine_143 : decode cX12_boxLine 143 = .ok (.getfield 201, 3) := by decide +kernel
theorem dX12_boxLine_146 : decode cX12_boxLine 146 = .ok (.iconst 1, 1) := by decide +kernel
theorem dX12_boxLine_147 : decode cX12_boxLine 147 = .ok (.iadd, 1) := by decide +kernel
theorem dX12_boxLine_148 : decode cX12_boxLine 148 = .ok (.putfield 201, 3) := by decide +kernel
theorem dX12_boxLine_151 : decode cX12_boxLine 151 = .ok (.iconst 1, 1) := by decide +kernel
theorem dX12_boxLine_152 : decode cX12_boxLine 152 = .ok (.ireturn, 1) := by decide +kernel
theorem dX12_toothLine_0 : decode cX12_toothLine 0 = .ok (.aload_n 0, 1) := by decide +kernel
theorem dX12_toothLine_1 : decode cX12_toothLine 1 = .ok (.getfield 204, 3) := by decide +kernel
theorem dX12_toothLine_4 : decode cX12_toothLine 4 = .ok (.bipush 12, 2) := by decide +kernel
theorem dX12_toothLine_6 : decode cX12_toothLine 6 = .ok (.if_icmp .ne 9, 3) := by decide +kernel
theorem dX12_toothLine_9 : decode cX12_toothLine 9 = .ok (.aload_n 0, 1) := by decide +kernel
theorem dX12_toothLine_10 : decode cX12_toothLine 10 = .ok (.iconst 2, 1) := by decide +kernel
theorem dX12_toothLine_11 : decode cX12_toothLine 11 = .ok (.invokevirtual 181, 3) := by decide +kernel
theorem dX12_toothLine_14 : decode cX12_toothLine 14 = .ok (.ireturn, 1) := by decide +kernel
theorem dX12_toothLine_15 : decode cX12_toothLine 15 = .ok (.aload_n 0, 1) := by decide +kernel
theorem dX12_toothLine_16 : decode cX12_toothLine 16 = .ok (.invokevirtual 191, 3) := by decide +kernel
theorem dX12_toothLine_19 : decode cX12_toothLine 19 = .ok (.aload_n 0, 1) := by decide +kernel
theorem dX12_toothLine_20 : decode cX12_toothLine 20 = .ok (.invokevirtual 246, 3) := by decide +kernel
theorem dX12_toothLine_23 : decode cX12_toothLine 23 = .ok (.ifCond .ne 5, 3) := by decide +kernel
theorem dX12_toothLine_26 : decode cX12_toothLine 26 = .ok (.iconst 0, 1) := by decide +kernel
theorem dX12_toothLine_27 : decode cX12_toothLine 27 = .ok (.ireturn, 1) := by decide +kernel
theorem dX12_toothLine_28 : decode cX12_toothLine 28 = .ok (.bipush 6, 2) := by decide +kernel
theorem dX12_toothLine_30 : decode cX12_toothLine 30 = .ok (.aload_n 0, 1) := by decide +kernel
theorem dX12_toothLine_31 : decode cX12_toothLine 31 = .ok (.getfield 188, 3) := by decide +kernel
theorem dX12_toothLine_34 : decode cX12_toothLine 34 = .ok (.iadd, 1) := by decide +kernel
theorem dX12_toothLine_35 : decode cX12_toothLine 35 = .ok (.istore_n 1, 1) := by decide +kernel
theorem dX12_toothLine_36 : decode cX12_toothLine 36 = .ok (.aload_n 0, 1) := by decide +kernel
theorem dX12_toothLine_37 : decode cX12_toothLine 37 = .ok (.getfield 148, 3) := by decide +kernel
theorem dX12_toothLine_40 : decode cX12_toothLine 40 = .ok (.istore_n 2, 1) := by decide +kernel
theorem dX12_toothLine_41 : decode cX12_toothLine 41 = .ok (.aload_n 0, 1) := by decide +kernel
theorem dX12_toothLine_42 : decode cX12_toothLine 42 = .ok (.iconst 1, 1) := by decide +kernel
theorem dX12_toothLine_43 : decode cX12_toothLine 43 = .ok (.bipush 9, 2) := by decide +kernel
theorem dX12_toothLine_45 : decode cX12_toothLine 45 = .ok (.invokevirtual 197, 3) := by decide +kernel
theorem dX12_toothLine_48 : decode cX12_toothLine 48 = .ok (.ifCond .ne 5, 3) := by decide +kernel
theorem dX12_toothLine_51 : decode cX12_toothLine 51 = .ok (.iconst 0, 1) := by decide +kernel
theorem dX12_toothLine_52 : decode cX12_toothLine 52 = .ok (.ireturn, 1) := by decide +kernel
theorem dX12_toothLine_53 : decode cX12_toothLine 53 = .ok (.aload_n 0, 1) := by decide +kernel
theorem dX12_toothLine_54 : decode cX12_toothLine 54 = .ok (.getfield 39, 3) := by decide +kernel
theorem dX12_toothLine_57 : decode cX12_toothLine 57 = .ok (.iload_n 1, 1) := by decide +kernel
theorem dX12_toothLine_58 : decode cX12_toothLine 58 = .ok (.iaload, 1) := by decide +kernel
theorem dX12_toothLine_59 : decode cX12_toothLine 59 = .ok (.aload_n 0, 1) := by decide +kernel
theorem dX12_toothLine_60 : decode cX12_toothLine 60 = .ok (.getfield 188, 3) := by decide +kernel
theorem dX12_toothLine_63 : decode cX12_toothLine 63 = .ok (.invokestatic 250, 3) := by decide +kernel
theorem dX12_toothLine_66 : decode cX12_toothLine 66 = .ok (.ifCond .eq 14, 3) := by decide +kernel
theorem dX12_toothLine_69 : decode cX12_toothLine 69 = .ok (.aload_n 0, 1) := by decide +kernel
theorem dX12_toothLine_70 : decode cX12_toothLine 70 = .ok (.iload_n 2, 1) := by decide +kernel
theorem dX12_toothLine_71 : decode cX12_toothLine 71 = .ok (.putfield 148, 3) := by decide +kernel
theorem dX12_toothLine_74 : decode cX12_toothLine 74 = .ok (.aload_n 0, 1) := by decide +kernel
theorem dX12_toothLine_75 : decode cX12_toothLine 75 = .ok (.iconst 3, 1) := by decide +kernel
theorem dX12_toothLine_76 : decode cX12_toothLine 76 = .ok (.invokevirtual 181, 3) := by decide +kernel
theorem dX12_toothLine_79 : decode cX12_toothLine 79 = .ok (.ireturn, 1) := by decide +kernel
theorem dX12_toothLine_80 : decode cX12_toothLine 80 = .ok (.aload_n 0, 1) := by decide +kernel
theorem dX12_toothLine_81 : decode cX12_toothLine 81 = .ok (.getfield 39, 3) := by decide +kernel
theorem dX12_toothLine_84 : decode cX12_toothLine 84 = .ok (.iload_n 1, 1) := by decide +kernel
theorem dX12_toothLine_85 : decode cX12_toothLine 85 = .ok (.dup2, 1) := by decide +kernel
theorem dX12_toothLine_86 : decode cX12_toothLine 86 = .ok (.iaload, 1) := by decide +kernel
theorem dX12_toothLine_87 : decode cX12_toothLine 87 = .ok (.iconst 1, 1) := by decide +kernel
theorem dX12_toothLine_88 : decode cX12_toothLine 88 = .ok (.aload_n 0, 1) := by decide +kernel
theorem dX12_toothLine_89 : decode cX12_toothLine 89 = .ok (.getfield 188, 3) := by decide +kernel
theorem dX12_toothLine_92 : decode cX12_toothLine 92 = .ok (.ishl, 1) := by decide +kernel
theorem dX12_toothLine_93 : decode cX12_toothLine 93 = .ok (.ior, 1) := by decide +kernel
theorem dX12_toothLine_94 : decode cX12_toothLine 94 = .ok (.iastore, 1) := by decide +kernel
theorem dX12_toothLine_95 : decode cX12_toothLine 95 = .ok (.aload_n 0, 1) := by decide +kernel
theorem dX12_toothLine_96 : decode cX12_toothLine 96 = .ok (.dup, 1) := by decide +kernel
theorem dX12_toothLine_97 : decode cX12_toothLine 97 = .ok (.getfield 204, 3) := by decide +kernel
theorem dX12_toothLine_100 : decode cX12_toothLine 100 = .ok (.iconst 1, 1) := by decide +kernel
theorem dX12_toothLine_101 : decode cX12_toothLine 101 = .ok (.iadd, 1) := by decide +kernel
theorem dX12_toothLine_102 : decode cX12_toothLine 102 = .ok (.putfield 204, 3) := by decide +kernel
theorem dX12_toothLine_105 : decode cX12_toothLine 105 = .ok (.iconst 1, 1) := by decide +kernel
theorem dX12_toothLine_106 : decode cX12_toothLine 106 = .ok (.ireturn, 1) := by decide +kernel
theorem dX12_kinLine_0 : decode cX12_kinLine 0 = .ok (.aload_n 0, 1) := by decide +kernel
theorem dX12_kinLine_1 : decode cX12_kinLine 1 = .ok (.getfield 207, 3) := by decide +kernel
theorem dX12_kinLine_4 : decode cX12_kinLine 4 = .ok (.bipush 9, 2) := by decide +kernel
theorem dX12_kinLine_6 : decode cX12_kinLine 6 = .ok (.if_icmp .ne 9, 3) := by decide +kernel
theorem dX12_kinLine_9 : decode cX12_kinLine 9 = .ok (.aload_n 0, 1) := by decide +kernel
theorem dX12_kinLine_10 : decode cX12_kinLine 10 = .ok (.iconst 2, 1) := by decide +kernel
theorem dX12_kinLine_11 : decode cX12_kinLine 11 = .ok (.invokevirtual 181, 3) := by decide +kernel
theorem dX12_kinLine_14 : decode cX12_kinLine 14 = .ok (.ireturn, 1) := by decide +kernel
theorem dX12_kinLine_15 : decode cX12_kinLine 15 = .ok (.aload_n 0, 1) := by decide +kernel
theorem dX12_kinLine_16 : decode cX12_kinLine 16 = .ok (.invokevirtual 191, 3) := by decide +kernel
theorem dX12_kinLine_19 : decode cX12_kinLine 19 = .ok (.aload_n 0, 1) := by decide +kernel
theorem dX12_kinLine_20 : decode cX12_kinLine 20 = .ok (.invokevirtual 246, 3) := by decide +kernel
theorem dX12_kinLine_23 : decode cX12_kinLine 23 = .ok (.ifCond .ne 5, 3) := by decide +kernel
theorem dX12_kinLine_26 : decode cX12_kinLine 26 = .ok (.iconst 0, 1) := by decide +kernel
theorem dX12_kinLine_27 : decode cX12_kinLine 27 = .ok (.ireturn, 1) := by decide +kernel
theorem dX12_kinLine_28 : decode cX12_kinLine 28 = .ok (.aload_n 0, 1) := by decide +kernel
theorem dX12_kinLine_29 : decode cX12_kinLine 29 = .ok (.getfield 188, 3) := by decide +kernel
theorem dX12_kinLine_32 : decode cX12_kinLine 32 = .ok (.istore_n 1, 1) := by decide +kernel
theorem dX12_kinLine_33 : decode cX12_kinLine 33 = .ok (.aload_n 0, 1) := by decide +kernel
theorem dX12_kinLine_34 : decode cX12_kinLine 34 = .ok (.getfield 148, 3) := by decide +kernel
theorem dX12_kinLine_37 : decode cX12_kinLine 37 = .ok (.istore_n 2, 1) := by decide +kernel
theorem dX12_kinLine_38 : decode cX12_kinLine 38 = .ok (.aload_n 0, 1) := by decide +kernel
theorem dX12_kinLine_39 : decode cX12_kinLine 39 = .ok (.invokevirtual 246, 3) := by decide +kernel
theorem dX12_kinLine_42 : decode cX12_kinLine 42 = .ok (.ifCond .ne 5, 3) := by decide +kernel
theorem dX12_kinLine_45 : decode cX12_kinLine 45 = .ok (.iconst 0, 1) := by decide +kernel
theorem dX12_kinLine_46 : decode cX12_kinLine 46 = .ok (.ireturn, 1) := by decide +kernel
theorem dX12_kinLine_47 : decode cX12_kinLine 47 = .ok (.aload_n 0, 1) := by decide +kernel
theorem dX12_kinLine_48 : decode cX12_kinLine 48 = .ok (.getfield 188, 3) := by decide +kernel
theorem dX12_kinLine_51 : decode cX12_kinLine 51 = .ok (.istore_n 3, 1) := by decide +kernel
theorem dX12_kinLine_52 : decode cX12_kinLine 52 = .ok (.iload_n 1, 1) := by decide +kernel
theorem dX12_kinLine_53 : decode cX12_kinLine 53 = .ok (.iload_n 3, 1) := by decide +kernel
theorem dX12_kinLine_54 : decode cX12_kinLine 54 = .ok (.if_icmp .eq 19, 3) := by decide +kernel
theorem dX12_kinLine_57 : decode cX12_kinLine 57 = .ok (.aload_n 0, 1) := by decide +kernel
theorem dX12_kinLine_58 : decode cX12_kinLine 58 = .ok (.getfield 42, 3) := by decide +kernel
theorem dX12_kinLine_61 : decode cX12_kinLine 61 = .ok (.bipush 6, 2) := by decide +kernel
theorem dX12_kinLine_63 : decode cX12_kinLine 63 = .ok (.iload_n 1, 1) := by decide +kernel
theorem dX12_kinLine_64 : decode cX12_kinLine 64 = .ok (.iadd, 1) := by decide +kernel
theorem dX12_kinLine_65 : decode cX12_kinLine 65 = .ok (.iaload, 1) := by decide +kernel
theorem dX12_kinLine_66 : decode cX12_kinLine 66 = .ok (.iload_n 3, 1) := by decide +kernel
theorem dX12_kinLine_67 : decode cX12_kinLine 67 = .ok (.invokestatic 250, 3) := by decide +kernel
theorem dX12_kinLine_70 : decode cX12_kinLine 70 = .ok (.ifCond .eq 23, 3) := by decide +kernel
theorem dX12_kinLine_73 : decode cX12_kinLine 73 = .ok (.aload_n 0, 1) := by decide +kernel
theorem dX12_kinLine_74 : decode cX12_kinLine 74 = .ok (.iload_n 2, 1) := by decide +kernel
theorem dX12_kinLine_75 : decode cX12_kinLine 75 = .ok (.putfield 148, 3) := by decide +kernel
theorem dX12_kinLine_78 : decode cX12_kinLine 78 = .ok (.aload_n 0, 1) := by decide +kernel
theorem dX12_kinLine_79 : decode cX12_kinLine 79 = .ok (.iload_n 1, 1) := by decide +kernel
theorem dX12_kinLine_80 : decode cX12_kinLine 80 = .ok (.iload_n 3, 1) := by decide +kernel
theorem dX12_kinLine_81 : decode cX12_kinLine 81 = .ok (.if_icmp .ne 7, 3) := by decide +kernel
theorem dX12_kinLine_84 : decode cX12_kinLine 84 = .ok (.iconst 5, 1) := by decide +kernel
theorem dX12_kinLine_85 : decode cX12_kinLine 85 = .ok (.goto 4, 3) := by decide +kernel
theorem dX12_kinLine_88 : decode cX12_kinLine 88 = .ok (.iconst 3, 1) := by decide +kernel
theorem dX12_kinLine_89 : decode cX12_kinLine 89 = .ok (.invokevirtual 181, 3) := by decide +kernel
theorem dX12_kinLine_92 : decode cX12_kinLine 92 = .ok (.ireturn, 1) := by decide +kernel
theorem dX12_kinLine_93 : decode cX12_kinLine 93 = .ok (.aload_n 0, 1) := by decide +kernel
theorem dX12_kinLine_94 : decode cX12_kinLine 94 = .ok (.getfield 42, 3) := by decide +kernel
theorem dX12_kinLine_97 : decode cX12_kinLine 97 = .ok (.bipush 6, 2) := by decide +kernel
theorem dX12_kinLine_99 : decode cX12_kinLine 99 = .ok (.iload_n 1, 1) := by decide +kernel
theorem dX12_kinLine_100 : decode cX12_kinLine 100 = .ok (.iadd, 1) := by decide +kernel
theorem dX12_kinLine_101 : decode cX12_kinLine 101 = .ok (.dup2, 1) := by decide +kernel
theorem dX12_kinLine_102 : decode cX12_kinLine 102 = .ok (.iaload, 1) := by decide +kernel
theorem dX12_kinLine_103 : decode cX12_kinLine 103 = .ok (.iconst 1, 1) := by decide +kernel
theorem dX12_kinLine_104 : decode cX12_kinLine 104 = .ok (.iload_n 3, 1) := by decide +kernel
theorem dX12_kinLine_105 : decode cX12_kinLine 105 = .ok (.ishl, 1) := by decide +kernel
theorem dX12_kinLine_106 : decode cX12_kinLine 106 = .ok (.ior, 1) := by decide +kernel
theorem dX12_kinLine_107 : decode cX12_kinLine 107 = .ok (.iastore, 1) := by decide +kernel
theorem dX12_kinLine_108 : decode cX12_kinLine 108 = .ok (.aload_n 0, 1) := by decide +kernel
theorem dX12_kinLine_109 : decode cX12_kinLine 109 = .ok (.getfield 42, 3) := by decide +kernel
theorem dX12_kinLine_112 : decode cX12_kinLine 112 = .ok (.bipush 6, 2) := by decide +kernel
theorem dX12_kinLine_114 : decode cX12_kinLine 114 = .ok (.iload_n 3, 1) := by decide +kernel
theorem dX12_kinLine_115 : decode cX12_kinLine 115 = .ok (.iadd, 1) := by decide +kernel
theorem dX12_kinLine_116 : decode cX12_kinLine 116 = .ok (.dup2, 1) := by decide +kernel
theorem dX12_kinLine_117 : decode cX12_kinLine 117 = .ok (.iaload, 1) := by decide +kernel
theorem dX12_kinLine_118 : decode cX12_kinLine 118 = .ok (.iconst 1, 1) := by decide +kernel
theorem dX12_kinLine_119 : decode cX12_kinLine 119 = .ok (.iload_n 1, 1) := by decide +kernel
theorem dX12_kinLine_120 : decode cX12_kinLine 120 = .ok (.ishl, 1) := by decide +kernel
theorem dX12_kinLine_121 : decode cX12_kinLine 121 = .ok (.ior, 1) := by decide +kernel
theorem dX12_kinLine_122 : decode cX12_kinLine 122 = .ok (.iastore, 1) := by decide +kernel
theorem dX12_kinLine_123 : decode cX12_kinLine 123 = .ok (.aload_n 0, 1) := by decide +kernel
theorem dX12_kinLine_124 : decode cX12_kinLine 124 = .ok (.dup, 1) := by decide +kernel
theorem dX12_kinLine_125 : decode cX12_kinLine 125 = .ok (.getfield 207, 3) := by decide +kernel
theorem dX12_kinLine_128 : decode cX12_kinLine 128 = .ok (.iconst 1, 1) := by decide +kernel
theorem dX12_kinLine_129 : decode cX12_kinLine 129 = .ok (.iadd, 1) := by decide +kernel
theorem dX12_kinLine_130 : decode cX12_kinLine 130 = .ok (.putfield 207, 3) := by decide +kernel
theorem dX12_kinLine_133 : decode cX12_kinLine 133 = .ok (.iconst 1, 1) := by decide +kernel
theorem dX12_kinLine_134 : decode cX12_kinLine 134 = .ok (.ireturn, 1) := by decide +kernel
theorem dX12_guestLine_0 : decode cX12_guestLine 0 = .ok (.aload_n 0, 1) := by decide +kernel
theorem dX12_guestLine_1 : decode cX12_guestLine 1 = .ok (.getfield 210, 3) := by decide +kernel
theorem dX12_guestLine_4 : decode cX12_guestLine 4 = .ok (.iconst 5, 1) := by decide +kernel
theorem dX12_guestLine_5 : decode cX12_guestLine 5 = .ok (.if_icmp .ne 9, 3) := by decide +kernel
theorem dX12_guestLine_8 : decode cX12_guestLine 8 = .ok (.aload_n 0, 1) := by decide +kernel
theorem dX12_guestLine_9 : decode cX12_guestLine 9 = .ok (.iconst 2, 1) := by decide +kernel
theorem dX12_guestLine_10 : decode cX12_guestLine 10 = .ok (.invokevirtual 181, 3) := by decide +kernel
theorem dX12_guestLine_13 : decode cX12_guestLine 13 = .ok (.ireturn, 1) := by decide +kernel
theorem dX12_guestLine_14 : decode cX12_guestLine 14 = .ok (.aload_n 0, 1) := by decide +kernel
theorem dX12_guestLine_15 : decode cX12_guestLine 15 = .ok (.invokevirtual 191, 3) := by decide +kernel
theorem dX12_guestLine_18 : decode cX12_guestLine 18 = .ok (.aload_n 0, 1) := by decide +kernel
theorem dX12_guestLine_19 : decode cX12_guestLine 19 = .ok (.aload_n 0, 1) := by decide +kernel
theorem dX12_guestLine_20 : decode cX12_guestLine 20 = .ok (.getfield 45, 3) := by decide +kernel
theorem dX12_guestLine_23 : decode cX12_guestLine 23 = .ok (.iconst 5, 1) := by decide +kernel
theorem dX12_guestLine_24 : decode cX12_guestLine 24 = .ok (.aload_n 0, 1) := by decide +kernel
theorem dX12_guestLine_25 : decode cX12_guestLine 25 = .ok (.getfield 210, 3) := by decide +kernel
theorem dX12_guestLine_28 : decode cX12_guestLine 28 = .ok (.invokevirtual 242, 3) := by decide +kernel
theorem dX12_guestLine_31 : decode cX12_guestLine 31 = .ok (.ifCond .ne 5, 3) := by decide +kernel
theorem dX12_guestLine_34 : decode cX12_guestLine 34 = .ok (.iconst 0, 1) := by decide +kernel
theorem dX12_guestLine_35 : decode cX12_guestLine 35 = .ok (.ireturn, 1) := by decide +kernel
theorem dX12_guestLine_36 : decode cX12_guestLine 36 = .ok (.iconst 5, 1) := by decide +kernel
theorem dX12_guestLine_37 : decode cX12_guestLine 37 = .ok (.aload_n 0, 1) := by decide +kernel
theorem dX12_guestLine_38 : decode cX12_guestLine 38 = .ok (.getfield 210, 3) := by decide +kernel
theorem dX12_guestLine_41 : decode cX12_guestLine 41 = .ok (.iadd, 1) := by decide +kernel
theorem dX12_guestLine_42 : decode cX12_guestLine 42 = .ok (.istore_n 1, 1) := by decide +kernel
theorem dX12_guestLine_43 : decode cX12_guestLine 43 = .ok (.aload_n 0, 1) := by decide +kernel
theorem dX12_guestLine_44 : decode cX12_guestLine 44 = .ok (.iconst 0, 1) := by decide +kernel
theorem dX12_guestLine_45 : decode cX12_guestLine 45 = .ok (.bipush 99, 2) := by decide +kernel
theorem dX12_guestLine_47 : decode cX12_guestLine 47 = .ok (.invokevirtual 197, 3) := by decide +kernel
theorem dX12_guestLine_50 : decode cX12_guestLine 50 = .ok (.ifCond .ne 5, 3) := by decide +kernel
theorem dX12_guestLine_53 : decode cX12_guestLine 53 = .ok (.iconst 0, 1) := by decide +kernel
theorem dX12_guestLine_54 : decode cX12_guestLine 54 = .ok (.ireturn, 1) := by decide +kernel
theorem dX12_guestLine_55 : decode cX12_guestLine 55 = .ok (.aload_n 0, 1) := by decide +kernel
theorem dX12_guestLine_56 : decode cX12_guestLine 56 = .ok (.getfield 48, 3) := by decide +kernel
theorem dX12_guestLine_59 : decode cX12_guestLine 59 = .ok (.iload_n 1, 1) := by decide +kernel
theorem dX12_guestLine_60 : decode cX12_guestLine 60 = .ok (.aload_n 0, 1) := by decide +kernel
theorem dX12_guestLine_61 : decode cX12_guestLine 61 = .ok (.getfield 188, 3) := by decide +kernel
theorem dX12_guestLine_64 : decode cX12_guestLine 64 = .ok (.iastore, 1) := by decide +kernel
theorem dX12_guestLine_65 : decode cX12_guestLine 65 = .ok (.aload_n 0, 1) := by decide +kernel
theorem dX12_guestLine_66 : decode cX12_guestLine 66 = .ok (.iconst 0, 1) := by decide +kernel
theorem dX12_guestLine_67 : decode cX12_guestLine 67 = .ok (.bipush 9, 2) := by decide +kernel
theorem dX12_guestLine_69 : decode cX12_guestLine 69 = .ok (.invokevirtual 197, 3) := by decide +kernel
theorem dX12_guestLine_72 : decode cX12_guestLine 72 = .ok (.ifCond .ne 5, 3) := by decide +kernel
theorem dX12_guestLine_75 : decode cX12_guestLine 75 = .ok (.iconst 0, 1) := by decide +kernel
theorem dX12_guestLine_76 : decode cX12_guestLine 76 = .ok (.ireturn, 1) := by decide +kernel
theorem dX12_guestLine_77 : decode cX12_guestLine 77 = .ok (.aload_n 0, 1) := by decide +kernel
theorem dX12_guestLine_78 : decode cX12_guestLine 78 = .ok (.getfield 51, 3) := by decide +kernel
theorem dX12_guestLine_81 : decode cX12_guestLine 81 = .ok (.iload_n 1, 1) := by decide +kernel
theorem dX12_guestLine_82 : decode cX12_guestLine 82 = .ok (.aload_n 0, 1) := by decide +kernel
theorem dX12_guestLine_83 : decode cX12_guestLine 83 = .ok (.getfield 188, 3) := by decide +kernel
theorem dX12_guestLine_86 : decode cX12_guestLine 86 = .ok (.iastore, 1) := by decide +kernel
theorem dX12_guestLine_87 : decode cX12_guestLine 87 = .ok (.aload_n 0, 1) := by decide +kernel
theorem dX12_guestLine_88 : decode cX12_guestLine 88 = .ok (.dup, 1) := by decide +kernel
theorem dX12_guestLine_89 : decode cX12_guestLine 89 = .ok (.getfield 210, 3) := by decide +kernel
theorem dX12_guestLine_92 : decode cX12_guestLine 92 = .ok (.iconst 1, 1) := by decide +kernel
theorem dX12_guestLine_93 : decode cX12_guestLine 93 = .ok (.iadd, 1) := by decide +kernel
theorem dX12_guestLine_94 : decode cX12_guestLine 94 = .ok (.putfield 210, 3) := by decide +kernel
theorem dX12_guestLine_97 : decode cX12_guestLine 97 = .ok (.iconst 1, 1) := by decide +kernel
theorem dX12_guestLine_98 : decode cX12_guestLine 98 = .ok (.ireturn, 1) := by decide +kernel
theorem dX12_onceLine_0 : decode cX12_onceLine 0 = .ok (.aload_n 0, 1) := by decide +kernel
theorem dX12_onceLine_1 : decode cX12_onceLine 1 = .ok (.getfield 20, 3) := by decide +kernel
theorem dX12_onceLine_4 : decode cX12_onceLine 4 = .ok (.iload_n 1, 1) := by decide +kernel
theorem dX12_onceLine_5 : decode cX12_onceLine 5 = .ok (.baload, 1) := by decide +kernel
theorem dX12_onceLine_6 : decode cX12_onceLine 6 = .ok (.ifCond .eq 9, 3) := by decide +kernel
theorem dX12_onceLine_9 : decode cX12_onceLine 9 = .ok (.aload_n 0, 1) := by decide +kernel
theorem dX12_onceLine_10 : decode cX12_onceLine 10 = .ok (.iconst 3, 1) := by decide +kernel
theorem dX12_onceLine_11 : decode cX12_onceLine 11 = .ok (.invokevirtual 181, 3) := by decide +kernel
theorem dX12_onceLine_14 : decode cX12_onceLine 14 = .ok (.ireturn, 1) := by decide +kernel
theorem dX12_onceLine_15 : decode cX12_onceLine 15 = .ok (.aload_n 0, 1) := by decide +kernel
theorem dX12_onceLine_16 : decode cX12_onceLine 16 = .ok (.getfield 20, 3) := by decide +kernel
theorem dX12_onceLine_19 : decode cX12_onceLine 19 = .ok (.iload_n 1, 1) := by decide +kernel
theorem dX12_onceLine_20 : decode cX12_onceLine 20 = .ok (.iconst 1, 1) := by decide +kernel
theorem dX12_onceLine_21 : decode cX12_onceLine 21 = .ok (.bastore, 1) := by decide +kernel
theorem dX12_onceLine_22 : decode cX12_onceLine 22 = .ok (.aload_n 0, 1) := by decide +kernel
theorem dX12_onceLine_23 : decode cX12_onceLine 23 = .ok (.invokevirtual 191, 3) := by decide +kernel
theorem dX12_onceLine_26 : decode cX12_onceLine 26 = .ok (.aload_n 0, 1) := by decide +kernel
theorem dX12_onceLine_27 : decode cX12_onceLine 27 = .ok (.iconst 0, 1) := by decide +kernel
theorem dX12_onceLine_28 : decode cX12_onceLine 28 = .ok (.iload_n 2, 1) := by decide +kernel
theorem dX12_onceLine_29 : decode cX12_onceLine 29 = .ok (.invokevirtual 197, 3) := by decide +kernel
theorem dX12_onceLine_32 : decode cX12_onceLine 32 = .ok (.ifCond .ne 5, 3) := by decide +kernel
theorem dX12_onceLine_35 : decode cX12_onceLine 35 = .ok (.iconst 0, 1) := by decide +kernel
theorem dX12_onceLine_36 : decode cX12_onceLine 36 = .ok (.ireturn, 1) := by decide +kernel
theorem dX12_onceLine_37 : decode cX12_onceLine 37 = .ok (.aload_n 0, 1) := by decide +kernel
theorem dX12_onceLine_38 : decode cX12_onceLine 38 = .ok (.getfield 24, 3) := by decide +kernel
theorem dX12_onceLine_41 : decode cX12_onceLine 41 = .ok (.iconst 2, 1) := by decide +kernel
theorem dX12_onceLine_42 : decode cX12_onceLine 42 = .ok (.iload_n 1, 1) := by decide +kernel
theorem dX12_onceLine_43 : decode cX12_onceLine 43 = .ok (.iadd, 1) := by decide +kernel
theorem dX12_onceLine_44 : decode cX12_onceLine 44 = .ok (.aload_n 0, 1) := by decide +kernel
theorem dX12_onceLine_45 : decode cX12_onceLine 45 = .ok (.getfield 188, 3) := by decide +kernel
theorem dX12_onceLine_48 : decode cX12_onceLine 48 = .ok (.iastore, 1) := by decide +kernel
theorem dX12_onceLine_49 : decode cX12_onceLine 49 = .ok (.iconst 1, 1) := by decide +kernel
theorem dX12_onceLine_50 : decode cX12_onceLine 50 = .ok (.ireturn, 1) := by decide +kernel
theorem dX12_lineRead_0 : decode cX12_lineRead 0 = .ok (.aload_n 0, 1) := by decide +kernel
theorem dX12_lineRead_1 : decode cX12_lineRead 1 = .ok (.getfield 157, 3) := by decide +kernel
theorem dX12_lineRead_4 : decode cX12_lineRead 4 = .ok (.iconst 1, 1) := by decide +kernel
theorem dX12_lineRead_5 : decode cX12_lineRead 5 = .ok (.if_icmp .ne 12, 3) := by decide +kernel
theorem dX12_lineRead_8 : decode cX12_lineRead 8 = .ok (.aload_n 0, 1) := by decide +kernel
theorem dX12_lineRead_9 : decode cX12_lineRead 9 = .ok (.getfield 168, 3) := by decide +kernel
theorem dX12_lineRead_12 : decode cX12_lineRead 12 = .ok (.bipush 6, 2) := by decide +kernel
theorem dX12_lineRead_14 : decode cX12_lineRead 14 = .ok (.if_icmp .le 9, 3) := by decide +kernel
theorem dX12_lineRead_17 : decode cX12_lineRead 17 = .ok (.aload_n 0, 1) := by decide +kernel
theorem dX12_lineRead_18 : decode cX12_lineRead 18 = .ok (.iconst 1, 1) := by decide +kernel
theorem dX12_lineRead_19 : decode cX12_lineRead 19 = .ok (.invokevirtual 181, 3) := by decide +kernel
theorem dX12_lineRead_22 : decode cX12_lineRead 22 = .ok (.ireturn, 1) := by decide +kernel
theorem dX12_lineRead_23 : decode cX12_lineRead 23 = .ok (.aload_n 0, 1) := by decide +kernel
theorem dX12_lineRead_24 : decode cX12_lineRead 24 = .ok (.getfield 168, 3) := by decide +kernel
theorem dX12_lineRead_27 : decode cX12_lineRead 27 = .ok (.tableswitch 91 0 5 #[37, 45, 53, 61, 69, 80], 37) := by decide +kernel
theorem dX12_lineRead_64 : decode cX12_lineRead 64 = .ok (.aload_n 0, 1) := by decide +kernel
theorem dX12_lineRead_65 : decode cX12_lineRead 65 = .ok (.invokevirtual 253, 3) := by decide +kernel
theorem dX12_lineRead_68 : decode cX12_lineRead 68 = .ok (.istore_n 1, 1) := by decide +kernel
theorem dX12_lineRead_69 : decode cX12_lineRead 69 = .ok (.goto 146, 3) := by decide +kernel
theorem dX12_lineRead_72 : decode cX12_lineRead 72 = .ok (.aload_n 0, 1) := by decide +kernel
theorem dX12_lineRead_73 : decode cX12_lineRead 73 = .ok (.invokevirtual 256, 3) := by decide +kernel
theorem dX12_lineRead_76 : decode cX12_lineRead 76 = .ok (.istore_n 1, 1) := by decide +kernel
theorem dX12_lineRead_77 : decode cX12_lineRead 77 = .ok (.goto 138, 3) := by decide +kernel
theorem dX12_lineRead_80 : decode cX12_lineRead 80 = .ok (.aload_n 0, 1) := by decide +kernel
theorem dX12_lineRead_81 : decode cX12_lineRead 81 = .ok (.invokevirtual 259, 3) := by decide +kernel
theorem dX12_lineRead_84 : decode cX12_lineRead 84 = .ok (.istore_n 1, 1) := by decide +kernel
theorem dX12_lineRead_85 : decode cX12_lineRead 85 = .ok (.goto 130, 3) := by decide +kernel
theorem dX12_lineRead_88 : decode cX12_lineRead 88 = .ok (.aload_n 0, 1) := by decide +kernel
theorem dX12_lineRead_89 : decode cX12_lineRead 89 = .ok (.invokevirtual 262, 3) := by decide +kernel
theorem dX12_lineRead_92 : decode cX12_lineRead 92 = .ok (.istore_n 1, 1) := by decide +kernel
theorem dX12_lineRead_93 : decode cX12_lineRead 93 = .ok (.goto 122, 3) := by decide +kernel
theorem dX12_lineRead_96 : decode cX12_lineRead 96 = .ok (.aload_n 0, 1) := by decide +kernel
theorem dX12_lineRead_97 : decode cX12_lineRead 97 = .ok (.iconst 0, 1) := by decide +kernel
theorem dX12_lineRead_98 : decode cX12_lineRead 98 = .ok (.bipush 100, 2) := by decide +kernel
theorem dX12_lineRead_100 : decode cX12_lineRead 100 = .ok (.invokevirtual 265, 3) := by decide +kernel
theorem dX12_lineRead_103 : decode cX12_lineRead 103 = .ok (.istore_n 1, 1) := by decide +kernel
theorem dX12_lineRead_104 : decode cX12_lineRead 104 = .ok (.goto 111, 3) := by decide +kernel
theorem dX12_lineRead_107 : decode cX12_lineRead 107 = .ok (.aload_n 0, 1) := by decide +kernel
theorem dX12_lineRead_108 : decode cX12_lineRead 108 = .ok (.iconst 1, 1) := by decide +kernel
theorem dX12_lineRead_109 : decode cX12_lineRead 109 = .ok (.ldc 177, 2) := by decide +kernel
theorem dX12_lineRead_111 : decode cX12_lineRead 111 = .ok (.invokevirtual 265, 3) := by decide +kernel
theorem dX12_lineRead_114 : decode cX12_lineRead 114 = .ok (.istore_n 1, 1) := by decide +kernel
theorem dX12_lineRead_115 : decode cX12_lineRead 115 = .ok (.goto 100, 3) := by decide +kernel
theorem dX12_lineRead_118 : decode cX12_lineRead 118 = .ok (.aload_n 0, 1) := by decide +kernel
theorem dX12_lineRead_119 : decode cX12_lineRead 119 = .ok (.invokevirtual 191, 3) := by decide +kernel
theorem dX12_lineRead_122 : decode cX12_lineRead 122 = .ok (.aload_n 0, 1) := by decide +kernel
theorem dX12_lineRead_123 : decode cX12_lineRead 123 = .ok (.getfield 157, 3) := by decide +kernel
theorem dX12_lineRead_126 : decode cX12_lineRead 126 = .ok (.iconst 1, 1) := by decide +kernel
theorem dX12_lineRead_127 : decode cX12_lineRead 127 = .ok (.if_icmp .ne 21, 3) := by decide +kernel
theorem dX12_lineRead_130 : decode cX12_lineRead 130 = .ok (.aload_n 0, 1) := by decide +kernel
theorem dX12_lineRead_131 : decode cX12_lineRead 131 = .ok (.getfield 168, 3) := by decide +kernel
theorem dX12_lineRead_134 : decode cX12_lineRead 134 = .ok (.bipush 7, 2) := by decide +kernel
theorem dX12_lineRead_136 : decode cX12_lineRead 136 = .ok (.if_icmp .lt 12, 3) := by decide +kernel
theorem dX12_lineRead_139 : decode cX12_lineRead 139 = .ok (.aload_n 0, 1) := by decide +kernel
theorem dX12_lineRead_140 : decode cX12_lineRead 140 = .ok (.getfield 168, 3) := by decide +kernel
theorem dX12_lineRead_143 : decode cX12_lineRead 143 = .ok (.bipush 9, 2) := by decide +kernel
theorem dX12_lineRead_145 : decode cX12_lineRead 145 = .ok (.if_icmp .le 9, 3) := by decide +kernel
theorem dX12_lineRead_148 : decode cX12_lineRead 148 = .ok (.aload_n 0, 1) := by decide +kernel
theorem dX12_lineRead_149 : decode cX12_lineRead 149 = .ok (.iconst 1, 1) := by decide +kernel
theorem dX12_lineRead_150 : decode cX12_lineRead 150 = .ok (.invokevirtual 181, 3) := by decide +kernel
theorem dX12_lineRead_153 : decode cX12_lineRead 153 = .ok (.ireturn, 1) := by decide +kernel
theorem dX12_lineRead_154 : decode cX12_lineRead 154 = .ok (.iconst 3, 1) := by decide +kernel
theorem dX12_lineRead_155 : decode cX12_lineRead 155 = .ok (.aload_n 0, 1) := by decide +kernel
theorem dX12_lineRead_156 : decode cX12_lineRead 156 = .ok (.getfield 168, 3) := by decide +kernel
theorem dX12_lineRead_159 : decode cX12_lineRead 159 = .ok (.iadd, 1) := by decide +kernel
theorem dX12_lineRead_160 : decode cX12_lineRead 160 = .ok (.bipush 7, 2) := by decide +kernel
theorem dX12_lineRead_162 : decode cX12_lineRead 162 = .ok (.isub, 1) := by decide +kernel
theorem dX12_lineRead_163 : decode cX12_lineRead 163 = .ok (.istore_n 2, 1) := by decide +kernel
theorem dX12_lineRead_164 : decode cX12_lineRead 164 = .ok (.aload_n 0, 1) := by decide +kernel
theorem dX12_lineRead_165 : decode cX12_lineRead 165 = .ok (.getfield 54, 3) := by decide +kernel
theorem dX12_lineRead_168 : decode cX12_lineRead 168 = .ok (.iload_n 2, 1) := by decide +kernel
theorem dX12_lineRead_169 : decode cX12_lineRead 169 = .ok (.baload, 1) := by decide +kernel
theorem dX12_lineRead_170 : decode cX12_lineRead 170 = .ok (.ifCond .eq 9, 3) := by decide +kernel
theorem dX12_lineRead_173 : decode cX12_lineRead 173 = .ok (.aload_n 0, 1) := by decide +kernel
theorem dX12_lineRead_174 : decode cX12_lineRead 174 = .ok (.iconst 3, 1) := by decide +kernel
theorem dX12_lineRead_175 : decode cX12_lineRead 175 = .ok (.invokevirtual 181, 3) := by decide +kernel
theorem dX12_lineRead_178 : decode cX12_lineRead 178 = .ok (.ireturn, 1) := by decide +kernel
theorem dX12_lineRead_179 : decode cX12_lineRead 179 = .ok (.aload_n 0, 1) := by decide +kernel
theorem dX12_lineRead_180 : decode cX12_lineRead 180 = .ok (.getfield 54, 3) := by decide +kernel
theorem dX12_lineRead_183 : decode cX12_lineRead 183 = .ok (.iload_n 2, 1) := by decide +kernel
theorem dX12_lineRead_184 : decode cX12_lineRead 184 = .ok (.iconst 1, 1) := by decide +kernel
theorem dX12_lineRead_185 : decode cX12_lineRead 185 = .ok (.bastore, 1) := by decide +kernel
theorem dX12_lineRead_186 : decode cX12_lineRead 186 = .ok (.aload_n 0, 1) := by decide +kernel
theorem dX12_lineRead_187 : decode cX12_lineRead 187 = .ok (.invokevirtual 191, 3) := by decide +kernel
theorem dX12_lineRead_190 : decode cX12_lineRead 190 = .ok (.aload_n 0, 1) := by decide +kernel
theorem dX12_lineRead_191 : decode cX12_lineRead 191 = .ok (.getfield 57, 3) := by decide +kernel
theorem dX12_lineRead_194 : decode cX12_lineRead 194 = .ok (.iload_n 2, 1) := by decide +kernel
theorem dX12_lineRead_195 : decode cX12_lineRead 195 = .ok (.aload_n 0, 1) := by decide +kernel
theorem dX12_lineRead_196 : decode cX12_lineRead 196 = .ok (.getfield 213, 3) := by decide +kernel
theorem dX12_lineRead_199 : decode cX12_lineRead 199 = .ok (.iastore, 1) := by decide +kernel
theorem dX12_lineRead_200 : decode cX12_lineRead 200 = .ok (.aload_n 0, 1) := by decide +kernel
theorem dX12_lineRead_201 : decode cX12_lineRead 201 = .ok (.invokevirtual 268, 3) := by decide +kernel
theorem dX12_lineRead_204 : decode cX12_lineRead 204 = .ok (.istore_n 1, 1) := by decide +kernel
theorem dX12_lineRead_205 : decode cX12_lineRead 205 = .ok (.aload_n 0, 1) := by decide +kernel
theorem dX12_lineRead_206 : decode cX12_lineRead 206 = .ok (.getfield 60, 3) := by decide +kernel
theorem dX12_lineRead_209 : decode cX12_lineRead 209 = .ok (.iload_n 2, 1) := by decide +kernel
theorem dX12_lineRead_210 : decode cX12_lineRead 210 = .ok (.aload_n 0, 1) := by decide +kernel
theorem dX12_lineRead_211 : decode cX12_lineRead 211 = .ok (.getfield 213, 3) := by decide +kernel
theorem dX12_lineRead_214 : decode cX12_lineRead 214 = .ok (.iastore, 1) := by decide +kernel
theorem dX12_lineRead_215 : decode cX12_lineRead 215 = .ok (.iload_n 1, 1) := by decide +kernel
theorem dX12_lineRead_216 : decode cX12_lineRead 216 = .ok (.ifCond .ne 5, 3) := by decide +kernel
theorem dX12_lineRead_219 : decode cX12_lineRead 219 = .ok (.iconst 0, 1) := by decide +kernel
theorem dX12_lineRead_220 : decode cX12_lineRead 220 = .ok (.ireturn, 1) := by decide +kernel
theorem dX12_lineRead_221 : decode cX12_lineRead 221 = .ok (.aload_n 0, 1) := by decide +kernel
theorem dX12_lineRead_222 : decode cX12_lineRead 222 = .ok (.bipush 59, 2) := by decide +kernel
theorem dX12_lineRead_224 : decode cX12_lineRead 224 = .ok (.invokevirtual 194, 3) := by decide +kernel
theorem dX12_lineRead_227 : decode cX12_lineRead 227 = .ok (.ifCond .ne 9, 3) := by decide +kernel
theorem dX12_lineRead_230 : decode cX12_lineRead 230 = .ok (.aload_n 0, 1) := by decide +kernel
theorem dX12_lineRead_231 : decode cX12_lineRead 231 = .ok (.iconst 1, 1) := by decide +kernel
theorem dX12_lineRead_232 : decode cX12_lineRead 232 = .ok (.invokevirtual 181, 3) := by decide +kernel
theorem dX12_lineRead_235 : decode cX12_lineRead 235 = .ok (.ireturn, 1) := by decide +kernel
theorem dX12_lineRead_236 : decode cX12_lineRead 236 = .ok (.aload_n 0, 1) := by decide +kernel
theorem dX12_lineRead_237 : decode cX12_lineRead 237 = .ok (.invokevirtual 191, 3) := by decide +kernel
theorem dX12_lineRead_240 : decode cX12_lineRead 240 = .ok (.iconst 1, 1) := by decide +kernel
theorem dX12_lineRead_241 : decode cX12_lineRead 241 = .ok (.ireturn, 1) := by decide +kernel
theorem dX12_text_0 : decode cX12_text 0 = .ok (.aload_n 0, 1) := by decide +kernel
theorem dX12_text_1 : decode cX12_text 1 = .ok (.iconst 0, 1) := by decide +kernel
theorem dX12_text_2 : decode cX12_text 2 = .ok (.putfield 139, 3) := by decide +kernel
theorem dX12_text_5 : decode cX12_text 5 = .ok (.iload_n 1, 1) := by decide +kernel
theorem dX12_text_6 : decode cX12_text 6 = .ok (.ifCond .lt 11, 3) := by decide +kernel
theorem dX12_text_9 : decode cX12_text 9 = .ok (.iload_n 1, 1) := by decide +kernel
theorem dX12_text_10 : decode cX12_text 10 = .ok (.aload_n 0, 1) := by decide +kernel
theorem dX12_text_11 : decode cX12_text 11 = .ok (.getfield 142, 3) := by decide +kernel
theorem dX12_text_14 : decode cX12_text 14 = .ok (.if_icmp .le 6, 3) := by decide +kernel
theorem dX12_text_17 : decode cX12_text 17 = .ok (.bipush (-2), 2) := by decide +kernel
theorem dX12_text_19 : decode cX12_text 19 = .ok (.ireturn, 1) := by decide +kernel
theorem dX12_text_20 : decode cX12_text 20 = .ok (.aload_n 0, 1) := by decide +kernel
theorem dX12_text_21 : decode cX12_text 21 = .ok (.iload_n 1, 1) := by decide +kernel
theorem dX12_text_22 : decode cX12_text 22 = .ok (.putfield 151, 3) := by decide +kernel
theorem dX12_text_25 : decode cX12_text 25 = .ok (.aload_n 0, 1) := by decide +kernel
theorem dX12_text_26 : decode cX12_text 26 = .ok (.iconst 0, 1) := by decide +kernel
theorem dX12_text_27 : decode cX12_text 27 = .ok (.putfield 142, 3) := by decide +kernel
theorem dX12_text_30 : decode cX12_text 30 = .ok (.aload_n 0, 1) := by decide +kernel
theorem dX12_text_31 : decode cX12_text 31 = .ok (.iconst 0, 1) := by decide +kernel
theorem dX12_text_32 : decode cX12_text 32 = .ok (.putfield 145, 3) := by decide +kernel
theorem dX12_text_35 : decode cX12_text 35 = .ok (.aload_n 0, 1) := by decide +kernel
theorem dX12_text_36 : decode cX12_text 36 = .ok (.iconst (-1), 1) := by decide +kernel
theorem dX12_text_37 : decode cX12_text 37 = .ok (.putfield 16, 3) := by decide +kernel
theorem dX12_text_40 : decode cX12_text 40 = .ok (.aload_n 0, 1) := by decide +kernel
theorem dX12_text_41 : decode cX12_text 41 = .ok (.iconst 0, 1) := by decide +kernel
theorem dX12_text_42 : decode cX12_text 42 = .ok (.putfield 154, 3) := by decide +kernel
theorem dX12_text_45 : decode cX12_text 45 = .ok (.aload_n 0, 1) := by decide +kernel
theorem dX12_text_46 : decode cX12_text 46 = .ok (.invokevirtual 133, 3) := by decide +kernel
theorem dX12_text_49 : decode cX12_text 49 = .ok (.aload_n 0, 1) := by decide +kernel
theorem dX12_text_50 : decode cX12_text 50 = .ok (.invokevirtual 191, 3) := by decide +kernel
theorem dX12_text_53 : decode cX12_text 53 = .ok (.iconst 0, 1) := by decide +kernel
theorem dX12_text_54 : decode cX12_text 54 = .ok (.istore_n 2, 1) := by decide +kernel
theorem dX12_text_55 : decode cX12_text 55 = .ok (.aload_n 0, 1) := by decide +kernel
theorem dX12_text_56 : decode cX12_text 56 = .ok (.getfield 157, 3) := by decide +kernel
theorem dX12_text_59 : decode cX12_text 59 = .ok (.ifCond .eq 18, 3) := by decide +kernel
theorem dX12_text_62 : decode cX12_text 62 = .ok (.aload_n 0, 1) := by decide +kernel
theorem dX12_text_63 : decode cX12_text 63 = .ok (.invokevirtual 271, 3) := by decide +kernel
theorem dX12_text_66 : decode cX12_text 66 = .ok (.ifCond .ne 5, 3) := by decide +kernel
theorem dX12_text_69 : decode cX12_text 69 = .ok (.iconst (-1), 1) := by decide +kernel
theorem dX12_text_70 : decode cX12_text 70 = .ok (.ireturn, 1) := by decide +kernel
theorem dX12_text_71 : decode cX12_text 71 = .ok (.iinc 2 1, 3) := by decide +kernel
theorem dX12_text_74 : decode cX12_text 74 = .ok (.goto (-19), 3) := by decide +kernel
theorem dX12_text_77 : decode cX12_text 77 = .ok (.aload_n 0, 1) := by decide +kernel
theorem dX12_text_78 : decode cX12_text 78 = .ok (.invokevirtual 136, 3) := by decide +kernel
theorem dX12_text_81 : decode cX12_text 81 = .ok (.iload_n 2, 1) := by decide +kernel
theorem dX12_text_82 : decode cX12_text 82 = .ok (.ireturn, 1) := by decide +kernel
theorem dX12_fault_0 : decode cX12_fault 0 = .ok (.aload_n 0, 1) := by decide +kernel
theorem dX12_fault_1 : decode cX12_fault 1 = .ok (.iconst 0, 1) := by decide +kernel
theorem dX12_fault_2 : decode cX12_fault 2 = .ok (.putfield 139, 3) := by decide +kernel
theorem dX12_fault_5 : decode cX12_fault 5 = .ok (.iload_n 1, 1) := by decide +kernel
theorem dX12_fault_6 : decode cX12_fault 6 = .ok (.ifCond .ne 10, 3) := by decide +kernel
theorem dX12_fault_9 : decode cX12_fault 9 = .ok (.aload_n 0, 1) := by decide +kernel
theorem dX12_fault_10 : decode cX12_fault 10 = .ok (.getfield 145, 3) := by decide +kernel
theorem dX12_fault_13 : decode cX12_fault 13 = .ok (.goto 16, 3) := by decide +kernel
theorem dX12_fault_16 : decode cX12_fault 16 = .ok (.iload_n 1, 1) := by decide +kernel
theorem dX12_fault_17 : decode cX12_fault 17 = .ok (.iconst 1, 1) := by decide +kernel
theorem dX12_fault_18 : decode cX12_fault 18 = .ok (.if_icmp .ne 10, 3) := by decide +kernel
theorem dX12_fault_21 : decode cX12_fault 21 = .ok (.aload_n 0, 1) := by decide +kernel
theorem dX12_fault_22 : decode cX12_fault 22 = .ok (.getfield 16, 3) := by decide +kernel
theorem dX12_fault_25 : decode cX12_fault 25 = .ok (.goto 4, 3) := by decide +kernel
theorem dX12_fault_28 : decode cX12_fault 28 = .ok (.iconst (-1), 1) := by decide +kernel
theorem dX12_fault_29 : decode cX12_fault 29 = .ok (.ireturn, 1) := by decide +kernel
theorem dX12_named_0 : decode cX12_named 0 = .ok (.aload_n 0, 1) := by decide +kernel
theorem dX12_named_1 : decode cX12_named 1 = .ok (.iconst 0, 1) := by decide +kernel
theorem dX12_named_2 : decode cX12_named 2 = .ok (.putfield 139, 3) := by decide +kernel
theorem dX12_named_5 : decode cX12_named 5 = .ok (.iload_n 1, 1) := by decide +kernel
theorem dX12_named_6 : decode cX12_named 6 = .ok (.ifCond .ne 19, 3) := by decide +kernel
theorem dX12_named_9 : decode cX12_named 9 = .ok (.aload_n 0, 1) := by decide +kernel
theorem dX12_named_10 : decode cX12_named 10 = .ok (.getfield 27, 3) := by decide +kernel
theorem dX12_named_13 : decode cX12_named 13 = .ok (.iconst 0, 1) := by decide +kernel
theorem dX12_named_14 : decode cX12_named 14 = .ok (.aload_n 0, 1) := by decide +kernel
theorem dX12_named_15 : decode cX12_named 15 = .ok (.getfield 219, 3) := by decide +kernel
theorem dX12_named_18 : decode cX12_named 18 = .ok (.iload_n 2, 1) := by decide +kernel
theorem dX12_named_19 : decode cX12_named 19 = .ok (.invokestatic 238, 3) := by decide +kernel
theorem dX12_named_22 : decode cX12_named 22 = .ok (.goto 25, 3) := by decide +kernel
theorem dX12_named_25 : decode cX12_named 25 = .ok (.iload_n 1, 1) := by decide +kernel
theorem dX12_named_26 : decode cX12_named 26 = .ok (.iconst 1, 1) := by decide +kernel
theorem dX12_named_27 : decode cX12_named 27 = .ok (.if_icmp .ne 19, 3) := by decide +kernel
theorem dX12_named_30 : decode cX12_named 30 = .ok (.aload_n 0, 1) := by decide +kernel
theorem dX12_named_31 : decode cX12_named 31 = .ok (.getfield 45, 3) := by decide +kernel
theorem dX12_named_34 : decode cX12_named 34 = .ok (.iconst 0, 1) := by decide +kernel
theorem dX12_named_35 : decode cX12_named 35 = .ok (.aload_n 0, 1) := by decide +kernel
theorem dX12_named_36 : decode cX12_named 36 = .ok (.getfield 225, 3) := by decide +kernel
theorem dX12_named_39 : decode cX12_named 39 = .ok (.iload_n 2, 1) := by decide +kernel
theorem dX12_named_40 : decode cX12_named 40 = .ok (.invokestatic 238, 3) := by decide +kernel
theorem dX12_named_43 : decode cX12_named 43 = .ok (.goto 4, 3) := by decide +kernel
theorem dX12_named_46 : decode cX12_named 46 = .ok (.iconst (-1), 1) := by decide +kernel
theorem dX12_named_47 : decode cX12_named 47 = .ok (.ireturn, 1) := by decide +kernel
theorem dX12_rank_0 : decode cX12_rank 0 = .ok (.iload_n 0, 1) := by decide +kernel
theorem dX12_rank_1 : decode cX12_rank 1 = .ok (.bipush 13, 2) := by decide +kernel
theorem dX12_rank_3 : decode cX12_rank 3 = .ok (.if_icmp .lt 8, 3) := by decide +kernel
theorem dX12_rank_6 : decode cX12_rank 6 = .ok (.bipush 6, 2) := by decide +kernel
theorem dX12_rank_8 : decode cX12_rank 8 = .ok (.goto 50, 3) := by decide +kernel
theorem dX12_rank_11 : decode cX12_rank 11 = .ok (.iload_n 0, 1) := by decide +kernel
theorem dX12_rank_12 : decode cX12_rank 12 = .ok (.bipush 11, 2) := by decide +kernel
theorem dX12_rank_14 : decode cX12_rank 14 = .ok (.if_icmp .lt 7, 3) := by decide +kernel
theorem dX12_rank_17 : decode cX12_rank 17 = .ok (.iconst 5, 1) := by decide +kernel
theorem dX12_rank_18 : decode cX12_rank 18 = .ok (.goto 40, 3) := by decide +kernel
theorem dX12_rank_21 : decode cX12_rank 21 = .ok (.iload_n 0, 1) := by decide +kernel
theorem dX12_rank_22 : decode cX12_rank 22 = .ok (.iconst 5, 1) := by decide +kernel
theorem dX12_rank_23 : decode cX12_rank 23 = .ok (.if_icmp .lt 7, 3) := by decide +kernel
theorem dX12_rank_26 : decode cX12_rank 26 = .ok (.iconst 4, 1) := by decide +kernel
theorem dX12_rank_27 : decode cX12_rank 27 = .ok (.goto 31, 3) := by decide +kernel
theorem dX12_rank_30 : decode cX12_rank 30 = .ok (.iload_n 0, 1) := by decide +kernel
theorem dX12_rank_31 : decode cX12_rank 31 = .ok (.iconst 2, 1) := by decide +kernel
theorem dX12_rank_32 : decode cX12_rank 32 = .ok (.if_icmp .ne 7, 3) := by decide +kernel
theorem dX12_rank_35 : decode cX12_rank 35 = .ok (.iconst 3, 1) := by decide +kernel
theorem dX12_rank_36 : decode cX12_rank 36 = .ok (.goto 22, 3) := by decide +kernel
theorem dX12_rank_39 : decode cX12_rank 39 = .ok (.iload_n 0, 1) := by decide +kernel
theorem dX12_rank_40 : decode cX12_rank 40 = .ok (.iconst 3, 1) := by decide +kernel
theorem dX12_rank_41 : decode cX12_rank 41 = .ok (.if_icmp .ne 7, 3) := by decide +kernel
theorem dX12_rank_44 : decode cX12_rank 44 = .ok (.iconst 2, 1) := by decide +kernel
theorem dX12_rank_45 : decode cX12_rank 45 = .ok (.goto 13, 3) := by decide +kernel
theorem dX12_rank_48 : decode cX12_rank 48 = .ok (.iload_n 0, 1) := by decide +kernel
theorem dX12_rank_49 : decode cX12_rank 49 = .ok (.iconst 4, 1) := by decide +kernel
theorem dX12_rank_50 : decode cX12_rank 50 = .ok (.if_icmp .ne 7, 3) := by decide +kernel
theorem dX12_rank_53 : decode cX12_rank 53 = .ok (.iconst 1, 1) := by decide +kernel
theorem dX12_rank_54 : decode cX12_rank 54 = .ok (.goto 4, 3) := by decide +kernel
theorem dX12_rank_57 : decode cX12_rank 57 = .ok (.iconst 0, 1) := by decide +kernel
theorem dX12_rank_58 : decode cX12_rank 58 = .ok (.ireturn, 1) := by decide +kernel
theorem dX12_grown_0 : decode cX12_grown 0 = .ok (.aload_n 0, 1) := by decide +kernel
theorem dX12_grown_1 : decode cX12_grown 1 = .ok (.getfield 63, 3) := by decide +kernel
theorem dX12_grown_4 : decode cX12_grown 4 = .ok (.bipush 64, 2) := by decide +kernel
theorem dX12_grown_6 : decode cX12_grown 6 = .ok (.aload_n 0, 1) := by decide +kernel
theorem dX12_grown_7 : decode cX12_grown 7 = .ok (.getfield 213, 3) := by decide +kernel
theorem dX12_grown_10 : decode cX12_grown 10 = .ok (.iadd, 1) := by decide +kernel
theorem dX12_grown_11 : decode cX12_grown 11 = .ok (.iload_n 1, 1) := by decide +kernel
theorem dX12_grown_12 : decode cX12_grown 12 = .ok (.iastore, 1) := by decide +kernel
theorem dX12_grown_13 : decode cX12_grown 13 = .ok (.aload_n 0, 1) := by decide +kernel
theorem dX12_grown_14 : decode cX12_grown 14 = .ok (.getfield 66, 3) := by decide +kernel
theorem dX12_grown_17 : decode cX12_grown 17 = .ok (.bipush 64, 2) := by decide +kernel
theorem dX12_grown_19 : decode cX12_grown 19 = .ok (.aload_n 0, 1) := by decide +kernel
theorem dX12_grown_20 : decode cX12_grown 20 = .ok (.getfield 213, 3) := by decide +kernel
theorem dX12_grown_23 : decode cX12_grown 23 = .ok (.iadd, 1) := by decide +kernel
theorem dX12_grown_24 : decode cX12_grown 24 = .ok (.iload_n 2, 1) := by decide +kernel
theorem dX12_grown_25 : decode cX12_grown 25 = .ok (.iastore, 1) := by decide +kernel
theorem dX12_grown_26 : decode cX12_grown 26 = .ok (.aload_n 0, 1) := by decide +kernel
theorem dX12_grown_27 : decode cX12_grown 27 = .ok (.getfield 69, 3) := by decide +kernel
theorem dX12_grown_30 : decode cX12_grown 30 = .ok (.bipush 64, 2) := by decide +kernel
theorem dX12_grown_32 : decode cX12_grown 32 = .ok (.aload_n 0, 1) := by decide +kernel
theorem dX12_grown_33 : decode cX12_grown 33 = .ok (.getfield 213, 3) := by decide +kernel
theorem dX12_grown_36 : decode cX12_grown 36 = .ok (.iadd, 1) := by decide +kernel
theorem dX12_grown_37 : decode cX12_grown 37 = .ok (.iload_n 3, 1) := by decide +kernel
theorem dX12_grown_38 : decode cX12_grown 38 = .ok (.iastore, 1) := by decide +kernel
theorem dX12_grown_39 : decode cX12_grown 39 = .ok (.aload_n 0, 1) := by decide +kernel
theorem dX12_grown_40 : decode cX12_grown 40 = .ok (.getfield 75, 3) := by decide +kernel
theorem dX12_grown_43 : decode cX12_grown 43 = .ok (.aload_n 0, 1) := by decide +kernel
theorem dX12_grown_44 : decode cX12_grown 44 = .ok (.getfield 274, 3) := by decide +kernel
theorem dX12_grown_47 : decode cX12_grown 47 = .ok (.aload_n 0, 1) := by decide +kernel
theorem dX12_grown_48 : decode cX12_grown 48 = .ok (.getfield 213, 3) := by decide +kernel
theorem dX12_grown_51 : decode cX12_grown 51 = .ok (.iastore, 1) := by decide +kernel
theorem dX12_grown_52 : decode cX12_grown 52 = .ok (.aload_n 0, 1) := by decide +kernel
theorem dX12_grown_53 : decode cX12_grown 53 = .ok (.dup, 1) := by decide +kernel
theorem dX12_grown_54 : decode cX12_grown 54 = .ok (.getfield 274, 3) := by decide +kernel
theorem dX12_grown_57 : decode cX12_grown 57 = .ok (.iconst 1, 1) := by decide +kernel
theorem dX12_grown_58 : decode cX12_grown 58 = .ok (.iadd, 1) := by decide +kernel
theorem dX12_grown_59 : decode cX12_grown 59 = .ok (.putfield 274, 3) := by decide +kernel
theorem dX12_grown_62 : decode cX12_grown 62 = .ok (.aload_n 0, 1) := by decide +kernel
theorem dX12_grown_63 : decode cX12_grown 63 = .ok (.dup, 1) := by decide +kernel
theorem dX12_grown_64 : decode cX12_grown 64 = .ok (.getfield 213, 3) := by decide +kernel
theorem dX12_grown_67 : decode cX12_grown 67 = .ok (.iconst 1, 1) := by decide +kernel
theorem dX12_grown_68 : decode cX12_grown 68 = .ok (.iadd, 1) := by decide +kernel
theorem dX12_grown_69 : decode cX12_grown 69 = .ok (.putfield 213, 3) := by decide +kernel
theorem dX12_grown_72 : decode cX12_grown 72 = .ok (.return_, 1) := by decide +kernel
theorem dX12_dropHeld_0 : decode cX12_dropHeld 0 = .ok (.aload_n 0, 1) := by decide +kernel
theorem dX12_dropHeld_1 : decode cX12_dropHeld 1 = .ok (.dup, 1) := by decide +kernel
theorem dX12_dropHeld_2 : decode cX12_dropHeld 2 = .ok (.getfield 274, 3) := by decide +kernel
theorem dX12_dropHeld_5 : decode cX12_dropHeld 5 = .ok (.iconst 1, 1) := by decide +kernel
theorem dX12_dropHeld_6 : decode cX12_dropHeld 6 = .ok (.isub, 1) := by decide +kernel
theorem dX12_dropHeld_7 : decode cX12_dropHeld 7 = .ok (.putfield 274, 3) := by decide +kernel
theorem dX12_dropHeld_10 : decode cX12_dropHeld 10 = .ok (.aload_n 0, 1) := by decide +kernel
theorem dX12_dropHeld_11 : decode cX12_dropHeld 11 = .ok (.getfield 75, 3) := by decide +kernel
theorem dX12_dropHeld_14 : decode cX12_dropHeld 14 = .ok (.aload_n 0, 1) := by decide +kernel
theorem dX12_dropHeld_15 : decode cX12_dropHeld 15 = .ok (.getfield 274, 3) := by decide +kernel
theorem dX12_dropHeld_18 : decode cX12_dropHeld 18 = .ok (.iaload, 1) := by decide +kernel
theorem dX12_dropHeld_19 : decode cX12_dropHeld 19 = .ok (.ireturn, 1) := by decide +kernel
theorem dX12_bind_0 : decode cX12_bind 0 = .ok (.aload_n 0, 1) := by decide +kernel
theorem dX12_bind_1 : decode cX12_bind 1 = .ok (.getfield 277, 3) := by decide +kernel
theorem dX12_bind_4 : decode cX12_bind 4 = .ok (.ifCond .le 72, 3) := by decide +kernel
theorem dX12_bind_7 : decode cX12_bind 7 = .ok (.aload_n 0, 1) := by decide +kernel
theorem dX12_bind_8 : decode cX12_bind 8 = .ok (.getfield 72, 3) := by decide +kernel
theorem dX12_bind_11 : decode cX12_bind 11 = .ok (.aload_n 0, 1) := by decide +kernel
theorem dX12_bind_12 : decode cX12_bind 12 = .ok (.getfield 277, 3) := by decide +kernel
theorem dX12_bind_15 : decode cX12_bind 15 = .ok (.iconst 1, 1) := by decide +kernel
theorem dX12_bind_16 : decode cX12_bind 16 = .ok (.isub, 1) := by decide +kernel
theorem dX12_bind_17 : decode cX12_bind 17 = .ok (.iaload, 1) := by decide +kernel
theorem dX12_bind_18 : decode cX12_bind 18 = .ok (.invokestatic 280, 3) := by decide +kernel
theorem dX12_bind_21 : decode cX12_bind 21 = .ok (.iload_n 1, 1) := by decide +kernel
theorem dX12_bind_22 : decode cX12_bind 22 = .ok (.if_icmp .lt 54, 3) := by decide +kernel
theorem dX12_bind_25 : decode cX12_bind 25 = .ok (.aload_n 0, 1) := by decide +kernel
theorem dX12_bind_26 : decode cX12_bind 26 = .ok (.dup, 1) := by decide +kernel
theorem dX12_bind_27 : decode cX12_bind 27 = .ok (.getfield 277, 3) := by decide +kernel
theorem dX12_bind_30 : decode cX12_bind 30 = .ok (.iconst 1, 1) := by decide +kernel
theorem dX12_bind_31 : decode cX12_bind 31 = .ok (.isub, 1) := by decide +kernel
theorem dX12_bind_32 : decode cX12_bind 32 = .ok (.putfield 277, 3) := by decide +kernel
theorem dX12_bind_35 : decode cX12_bind 35 = .ok (.aload_n 0, 1) := by decide +kernel
theorem dX12_bind_36 : decode cX12_bind 36 = .ok (.getfield 72, 3) := by decide +kernel
theorem dX12_bind_39 : decode cX12_bind 39 = .ok (.aload_n 0, 1) := by decide +kernel
theorem dX12_bind_40 : decode cX12_bind 40 = .ok (.getfield 277, 3) := by decide +kernel
theorem dX12_bind_43 : decode cX12_bind 43 = .ok (.iaload, 1) := by decide +kernel
theorem dX12_bind_44 : decode cX12_bind 44 = .ok (.istore_n 2, 1) := by decide +kernel
theorem dX12_bind_45 : decode cX12_bind 45 = .ok (.iload_n 2, 1) := by decide +kernel
theorem dX12_bind_46 : decode cX12_bind 46 = .ok (.iconst 2, 1) := by decide +kernel
theorem dX12_bind_47 : decode cX12_bind 47 = .ok (.if_icmp .ne 7, 3) := by decide +kernel
theorem dX12_bind_50 : decode cX12_bind 50 = .ok (.iconst (-1), 1) := by decide +kernel
theorem dX12_bind_51 : decode cX12_bind 51 = .ok (.goto 7, 3) := by decide +kernel
theorem dX12_bind_54 : decode cX12_bind 54 = .ok (.aload_n 0, 1) := by decide +kernel
theorem dX12_bind_55 : decode cX12_bind 55 = .ok (.invokevirtual 284, 3) := by decide +kernel
theorem dX12_bind_58 : decode cX12_bind 58 = .ok (.istore_n 3, 1) := by decide +kernel
theorem dX12_bind_59 : decode cX12_bind 59 = .ok (.aload_n 0, 1) := by decide +kernel
theorem dX12_bind_60 : decode cX12_bind 60 = .ok (.invokevirtual 284, 3) := by decide +kernel
theorem dX12_bind_63 : decode cX12_bind 63 = .ok (.istore 4, 2) := by decide +kernel
theorem dX12_bind_65 : decode cX12_bind 65 = .ok (.aload_n 0, 1) := by decide +kernel
theorem dX12_bind_66 : decode cX12_bind 66 = .ok (.iload_n 2, 1) := by decide +kernel
theorem dX12_bind_67 : decode cX12_bind 67 = .ok (.iload 4, 2) := by decide +kernel
theorem dX12_bind_69 : decode cX12_bind 69 = .ok (.iload_n 3, 1) := by decide +kernel
theorem dX12_bind_70 : decode cX12_bind 70 = .ok (.invokevirtual 288, 3) := by decide +kernel
theorem dX12_bind_73 : decode cX12_bind 73 = .ok (.goto (-73), 3) := by decide +kernel
theorem dX12_bind_76 : decode cX12_bind 76 = .ok (.return_, 1) := by decide +kernel
theorem dX12_isCounted_0 : decode cX12_isCounted 0 = .ok (.aload_n 0, 1) := by decide +kernel
theorem dX12_isCounted_1 : decode cX12_isCounted 1 = .ok (.getfield 216, 3) := by decide +kernel
theorem dX12_isCounted_4 : decode cX12_isCounted 4 = .ok (.bipush 64, 2) := by decide +kernel
theorem dX12_isCounted_6 : decode cX12_isCounted 6 = .ok (.if_icmp .ne 9, 3) := by decide +kernel
theorem dX12_isCounted_9 : decode cX12_isCounted 9 = .ok (.aload_n 0, 1) := by decide +kernel
theorem dX12_isCounted_10 : decode cX12_isCounted 10 = .ok (.iconst 2, 1) := by decide +kernel
theorem dX12_isCounted_11 : decode cX12_isCounted 11 = .ok (.invokevirtual 181, 3) := by decide +kernel
theorem dX12_isCounted_14 : decode cX12_isCounted 14 = .ok (.ireturn, 1) := by decide +kernel
theorem dX12_isCounted_15 : decode cX12_isCounted 15 = .ok (.aload_n 0, 1) := by decide +kernel
theorem dX12_isCounted_16 : decode cX12_isCounted 16 = .ok (.dup, 1) := by decide +kernel
theorem dX12_isCounted_17 : decode cX12_isCounted 17 = .ok (.getfield 216, 3) := by decide +kernel
theorem dX12_isCounted_20 : decode cX12_isCounted 20 = .ok (.iconst 1, 1) := by decide +kernel
theorem dX12_isCounted_21 : decode cX12_isCounted 21 = .ok (.iadd, 1) := by decide +kernel
theorem dX12_isCounted_22 : decode cX12_isCounted 22 = .ok (.putfield 216, 3) := by decide +kernel
theorem dX12_isCounted_25 : decode cX12_isCounted 25 = .ok (.iconst 1, 1) := by decide +kernel
theorem dX12_isCounted_26 : decode cX12_isCounted 26 = .ok (.ireturn, 1) := by decide +kernel
theorem dX12_waitsFor_0 : decode cX12_waitsFor 0 = .ok (.aload_n 0, 1) := by decide +kernel
theorem dX12_waitsFor_1 : decode cX12_waitsFor 1 = .ok (.getfield 72, 3) := by decide +kernel
theorem dX12_waitsFor_4 : decode cX12_waitsFor 4 = .ok (.aload_n 0, 1) := by decide +kernel
theorem dX12_waitsFor_5 : decode cX12_waitsFor 5 = .ok (.getfield 277, 3) := by decide +kernel
theorem dX12_waitsFor_8 : decode cX12_waitsFor 8 = .ok (.iload_n 1, 1) := by decide +kernel
theorem dX12_waitsFor_9 : decode cX12_waitsFor 9 = .ok (.iastore, 1) := by decide +kernel
theorem dX12_waitsFor_10 : decode cX12_waitsFor 10 = .ok (.aload_n 0, 1) := by decide +kernel
theorem dX12_waitsFor_11 : decode cX12_waitsFor 11 = .ok (.dup, 1) := by decide +kernel
theorem dX12_waitsFor_12 : decode cX12_waitsFor 12 = .ok (.getfield 277, 3) := by decide +kernel
theorem dX12_waitsFor_15 : decode cX12_waitsFor 15 = .ok (.iconst 1, 1) := by decide +kernel
theorem dX12_waitsFor_16 : decode cX12_waitsFor 16 = .ok (.iadd, 1) := by decide +kernel
theorem dX12_waitsFor_17 : decode cX12_waitsFor 17 = .ok (.putfield 277, 3) := by decide +kernel
theorem dX12_waitsFor_20 : decode cX12_waitsFor 20 = .ok (.return_, 1) := by decide +kernel
theorem dX12_nameMet_0 : decode cX12_nameMet 0 = .ok (.aload_n 0, 1) := by decide +kernel
theorem dX12_nameMet_1 : decode cX12_nameMet 1 = .ok (.getfield 157, 3) := by decide +kernel
theorem dX12_nameMet_4 : decode cX12_nameMet 4 = .ok (.iconst 1, 1) := by decide +kernel
theorem dX12_nameMet_5 : decode cX12_nameMet 5 = .ok (.if_icmp .ne 22, 3) := by decide +kernel
theorem dX12_nameMet_8 : decode cX12_nameMet 8 = .ok (.aload_n 0, 1) := by decide +kernel
theorem dX12_nameMet_9 : decode cX12_nameMet 9 = .ok (.getfield 168, 3) := by decide +kernel
theorem dX12_nameMet_12 : decode cX12_nameMet 12 = .ok (.bipush 13, 2) := by decide +kernel
theorem dX12_nameMet_14 : decode cX12_nameMet 14 = .ok (.if_icmp .lt 13, 3) := by decide +kernel
theorem dX12_nameMet_17 : decode cX12_nameMet 17 = .ok (.aload_n 0, 1) := by decide +kernel
theorem dX12_nameMet_18 : decode cX12_nameMet 18 = .ok (.getfield 168, 3) := by decide +kernel
theorem dX12_nameMet_21 : decode cX12_nameMet 21 = .ok (.bipush 13, 2) := by decide +kernel
theorem dX12_nameMet_23 : decode cX12_nameMet 23 = .ok (.isub, 1) := by decide +kernel
theorem dX12_nameMet_24 : decode cX12_nameMet 24 = .ok (.goto 4, 3) := by decide +kernel
theorem dX12_nameMet_27 : decode cX12_nameMet 27 = .ok (.iconst (-1), 1) := by decide +kernel
theorem dX12_nameMet_28 : decode cX12_nameMet 28 = .ok (.ireturn, 1) := by decide +kernel
theorem dX12_leafRead_0 : decode cX12_leafRead 0 = .ok (.aload_n 0, 1) := by decide +kernel
theorem dX12_leafRead_1 : decode cX12_leafRead 1 = .ok (.bipush 40, 2) := by decide +kernel
theorem dX12_leafRead_3 : decode cX12_leafRead 3 = .ok (.invokevirtual 194, 3) := by decide +kernel
theorem dX12_leafRead_6 : decode cX12_leafRead 6 = .ok (.ifCond .eq 44, 3) := by decide +kernel
theorem dX12_leafRead_9 : decode cX12_leafRead 9 = .ok (.aload_n 0, 1) := by decide +kernel
theorem dX12_leafRead_10 : decode cX12_leafRead 10 = .ok (.getfield 292, 3) := by decide +kernel
theorem dX12_leafRead_13 : decode cX12_leafRead 13 = .ok (.bipush 8, 2) := by decide +kernel
theorem dX12_leafRead_15 : decode cX12_leafRead 15 = .ok (.if_icmp .ne 9, 3) := by decide +kernel
theorem dX12_leafRead_18 : decode cX12_leafRead 18 = .ok (.aload_n 0, 1) := by decide +kernel
theorem dX12_leafRead_19 : decode cX12_leafRead 19 = .ok (.iconst 2, 1) := by decide +kernel
theorem dX12_leafRead_20 : decode cX12_leafRead 20 = .ok (.invokevirtual 181, 3) := by decide +kernel
theorem dX12_leafRead_23 : decode cX12_leafRead 23 = .ok (.ireturn, 1) := by decide +kernel
theorem dX12_leafRead_24 : decode cX12_leafRead 24 = .ok (.aload_n 0, 1) := by decide +kernel
theorem dX12_leafRead_25 : decode cX12_leafRead 25 = .ok (.dup, 1) := by decide +kernel
theorem dX12_leafRead_26 : decode cX12_leafRead 26 = .ok (.getfield 292, 3) := by decide +kernel
theorem dX12_leafRead_29 : decode cX12_leafRead 29 = .ok (.iconst 1, 1) := by decide +kernel
theorem dX12_leafRead_30 : decode cX12_leafRead 30 = .ok (.iadd, 1) := by decide +kernel
theorem dX12_leafRead_31 : decode cX12_leafRead 31 = .ok (.putfield 292, 3) := by decide +kernel
theorem dX12_leafRead_34 : decode cX12_leafRead 34 = .ok (.aload_n 0, 1) := by decide +kernel
theorem dX12_leafRead_35 : decode cX12_leafRead 35 = .ok (.iconst 0, 1) := by decide +kernel
theorem dX12_leafRead_36 : decode cX12_leafRead 36 = .ok (.invokevirtual 295, 3) := by decide +kernel
theorem dX12_leafRead_39 : decode cX12_leafRead 39 = .ok (.aload_n 0, 1) := by decide +kernel
theorem dX12_leafRead_40 : decode cX12_leafRead 40 = .ok (.iconst 1, 1) := by decide +kernel
theorem dX12_leafRead_41 : decode cX12_leafRead 41 = .ok (.putfield 299, 3) := by decide +kernel
theorem dX12_leafRead_44 : decode cX12_leafRead 44 = .ok (.aload_n 0, 1) := by decide +kernel
theorem dX12_leafRead_45 : decode cX12_leafRead 45 = .ok (.invokevirtual 191, 3) := by decide +kernel
theorem dX12_leafRead_48 : decode cX12_leafRead 48 = .ok (.iconst 1, 1) := by decide +kernel
theorem dX12_leafRead_49 : decode cX12_leafRead 49 = .ok (.ireturn, 1) := by decide +kernel
theorem dX12_leafRead_50 : decode cX12_leafRead 50 = .ok (.aload_n 0, 1) := by decide +kernel
theorem dX12_leafRead_51 : decode cX12_leafRead 51 = .ok (.bipush 12, 2) := by decide +kernel
theorem dX12_leafRead_53 : decode cX12_leafRead 53 = .ok (.invokevirtual 303, 3) := by decide +kernel
theorem dX12_leafRead_56 : decode cX12_leafRead 56 = .ok (.ifCond .eq 30, 3) := by decide +kernel
theorem dX12_leafRead_59 : decode cX12_leafRead 59 = .ok (.aload_n 0, 1) := by decide +kernel
theorem dX12_leafRead_60 : decode cX12_leafRead 60 = .ok (.getfield 299, 3) := by decide +kernel
theorem dX12_leafRead_63 : decode cX12_leafRead 63 = .ok (.ifCond .eq 23, 3) := by decide +kernel
theorem dX12_leafRead_66 : decode cX12_leafRead 66 = .ok (.aload_n 0, 1) := by decide +kernel
theorem dX12_leafRead_67 : decode cX12_leafRead 67 = .ok (.invokevirtual 306, 3) := by decide +kernel
theorem dX12_leafRead_70 : decode cX12_leafRead 70 = .ok (.ifCond .ne 5, 3) := by decide +kernel
theorem dX12_leafRead_73 : decode cX12_leafRead 73 = .ok (.iconst 0, 1) := by decide +kernel
theorem dX12_leafRead_74 : decode cX12_leafRead 74 = .ok (.ireturn, 1) := by decide +kernel
theorem dX12_leafRead_75 : decode cX12_leafRead 75 = .ok (.aload_n 0, 1) := by decide +kernel
theorem dX12_leafRead_76 : decode cX12_leafRead 76 = .ok (.iconst 2, 1) := by decide +kernel
theorem dX12_leafRead_77 : decode cX12_leafRead 77 = .ok (.invokevirtual 295, 3) := by decide +kernel
theorem dX12_leafRead_80 : decode cX12_leafRead 80 = .ok (.aload_n 0, 1) := by decide +kernel
theorem dX12_leafRead_81 : decode cX12_leafRead 81 = .ok (.invokevirtual 191, 3) := by decide +kernel
theorem dX12_leafRead_84 : decode cX12_leafRead 84 = .ok (.iconst 1, 1) := by decide +kernel
theorem dX12_leafRead_85 : decode cX12_leafRead 85 = .ok (.ireturn, 1) := by decide +kernel
theorem dX12_leafRead_86 : decode cX12_leafRead 86 = .ok (.aload_n 0, 1) := by decide +kernel
theorem dX12_leafRead_87 : decode cX12_leafRead 87 = .ok (.invokevirtual 309, 3) := by decide +kernel
theorem dX12_leafRead_90 : decode cX12_leafRead 90 = .ok (.istore_n 1, 1) := by decide +kernel
theorem dX12_leafRead_91 : decode cX12_leafRead 91 = .ok (.iload_n 1, 1) := by decide +kernel
theorem dX12_leafRead_92 : decode cX12_leafRead 92 = .ok (.ifCond .ge 17, 3) := by decide +kernel
theorem dX12_leafRead_95 : decode cX12_leafRead 95 = .ok (.aload_n 0, 1) := by decide +kernel
theorem dX12_leafRead_96 : decode cX12_leafRead 96 = .ok (.getfield 157, 3) := by decide +kernel
theorem dX12_leafRead_99 : decode cX12_leafRead 99 = .ok (.iconst 3, 1) := by decide +kernel
theorem dX12_leafRead_100 : decode cX12_leafRead 100 = .ok (.if_icmp .eq 9, 3) := by decide +kernel
theorem dX12_leafRead_103 : decode cX12_leafRead 103 = .ok (.aload_n 0, 1) := by decide +kernel
theorem dX12_leafRead_104 : decode cX12_leafRead 104 = .ok (.iconst 1, 1) := by decide +kernel
theorem dX12_leafRead_105 : decode cX12_leafRead 105 = .ok (.invokevirtual 181, 3) := by decide +kernel
theorem dX12_leafRead_108 : decode cX12_leafRead 108 = .ok (.ireturn, 1) := by decide +kernel
theorem dX12_leafRead_109 : decode cX12_leafRead 109 = .ok (.iload_n 1, 1) := by decide +kernel
theorem dX12_leafRead_110 : decode cX12_leafRead 110 = .ok (.ifCond .ge 19, 3) := by decide +kernel
theorem dX12_leafRead_113 : decode cX12_leafRead 113 = .ok (.aload_n 0, 1) := by decide +kernel
theorem dX12_leafRead_114 : decode cX12_leafRead 114 = .ok (.getfield 168, 3) := by decide +kernel
theorem dX12_leafRead_117 : decode cX12_leafRead 117 = .ok (.sipush 9999, 3) := by decide +kernel
theorem dX12_leafRead_120 : decode cX12_leafRead 120 = .ok (.if_icmp .le 9, 3) := by decide +kernel
theorem dX12_leafRead_123 : decode cX12_leafRead 123 = .ok (.aload_n 0, 1) := by decide +kernel
theorem dX12_leafRead_124 : decode cX12_leafRead 124 = .ok (.iconst 2, 1) := by decide +kernel
theorem dX12_leafRead_125 : decode cX12_leafRead 125 = .ok (.invokevirtual 181, 3) := by decide +kernel
theorem dX12_leafRead_128 : decode cX12_leafRead 128 = .ok (.ireturn, 1) := by decide +kernel
theorem dX12_leafRead_129 : decode cX12_leafRead 129 = .ok (.aload_n 0, 1) := by decide +kernel
theorem dX12_leafRead_130 : decode cX12_leafRead 130 = .ok (.invokevirtual 306, 3) := by decide +kernel
theorem dX12_leafRead_133 : decode cX12_leafRead 133 = .ok (.ifCond .ne 5, 3) := by decide +kernel
theorem dX12_leafRead_136 : decode cX12_leafRead 136 = .ok (.iconst 0, 1) := by decide +kernel
theorem dX12_leafRead_137 : decode cX12_leafRead 137 = .ok (.ireturn, 1) := by decide +kernel
theorem dX12_leafRead_138 : decode cX12_leafRead 138 = .ok (.aload_n 0, 1) := by decide +kernel
theorem dX12_leafRead_139 : decode cX12_leafRead 139 = .ok (.iload_n 1, 1) := by decide +kernel
theorem dX12_leafRead_140 : decode cX12_leafRead 140 = .ok (.ifCond .lt 7, 3) := by decide +kernel
theorem dX12_leafRead_143 : decode cX12_leafRead 143 = .ok (.iconst 1, 1) := by decide +kernel
theorem dX12_leafRead_144 : decode cX12_leafRead 144 = .ok (.goto 4, 3) := by decide +kernel
theorem dX12_leafRead_147 : decode cX12_leafRead 147 = .ok (.iconst 0, 1) := by decide +kernel
theorem dX12_leafRead_148 : decode cX12_leafRead 148 = .ok (.iload_n 1, 1) := by decide +kernel
theorem dX12_leafRead_149 : decode cX12_leafRead 149 = .ok (.ifCond .lt 7, 3) := by decide +kernel
theorem dX12_leafRead_152 : decode cX12_leafRead 152 = .ok (.iload_n 1, 1) := by decide +kernel
theorem dX12_leafRead_153 : decode cX12_leafRead 153 = .ok (.goto 7, 3) := by decide +kernel
theorem dX12_leafRead_156 : decode cX12_leafRead 156 = .ok (.aload_n 0, 1) := by decide +kernel
theorem dX12_leafRead_157 : decode cX12_leafRead 157 = .ok (.getfield 168, 3) := by decide +kernel
theorem dX12_leafRead_160 : decode cX12_leafRead 160 = .ok (.iconst 0, 1) := by decide +kernel
theorem dX12_leafRead_161 : decode cX12_leafRead 161 = .ok (.invokevirtual 288, 3) := by decide +kernel
theorem dX12_leafRead_164 : decode cX12_leafRead 164 = .ok (.aload_n 0, 1) := by decide +kernel
theorem dX12_leafRead_165 : decode cX12_leafRead 165 = .ok (.iconst 0, 1) := by decide +kernel
theorem dX12_leafRead_166 : decode cX12_leafRead 166 = .ok (.putfield 312, 3) := by decide +kernel
theorem dX12_leafRead_169 : decode cX12_leafRead 169 = .ok (.aload_n 0, 1) := by decide +kernel
theorem dX12_leafRead_170 : decode cX12_leafRead 170 = .ok (.invokevirtual 191, 3) := by decide +kernel
theorem dX12_leafRead_173 : decode cX12_leafRead 173 = .ok (.iconst 1, 1) := by decide +kernel
theorem dX12_leafRead_174 : decode cX12_leafRead 174 = .ok (.ireturn, 1) := by decide +kernel
theorem dX12_signs_0 : decode cX12_signs 0 = .ok (.aload_n 0, 1) := by decide +kernel
theorem dX12_signs_1 : decode cX12_signs 1 = .ok (.bipush 41, 2) := by decide +kernel
theorem dX12_signs_3 : decode cX12_signs 3 = .ok (.invokevirtual 194, 3) := by decide +kernel
theorem dX12_signs_6 : decode cX12_signs 6 = .ok (.ifCond .eq 41, 3) := by decide +kernel
theorem dX12_signs_9 : decode cX12_signs 9 = .ok (.aload_n 0, 1) := by decide +kernel
theorem dX12_signs_10 : decode cX12_signs 10 = .ok (.getfield 292, 3) := by decide +kernel
theorem dX12_signs_13 : decode cX12_signs 13 = .ok (.ifCond .le 34, 3) := by decide +kernel
theorem dX12_signs_16 : decode cX12_signs 16 = .ok (.aload_n 0, 1) := by decide +kernel
theorem dX12_signs_17 : decode cX12_signs 17 = .ok (.iconst 1, 1) := by decide +kernel
theorem dX12_signs_18 : decode cX12_signs 18 = .ok (.invokevirtual 315, 3) := by decide +kernel
theorem dX12_signs_21 : decode cX12_signs 21 = .ok (.aload_n 0, 1) := by decide +kernel
theorem dX12_signs_22 : decode cX12_signs 22 = .ok (.dup, 1) := by decide +kernel
theorem dX12_signs_23 : decode cX12_signs 23 = .ok (.getfield 277, 3) := by decide +kernel
theorem dX12_signs_26 : decode cX12_signs 26 = .ok (.iconst 1, 1) := by decide +kernel
theorem dX12_signs_27 : decode cX12_signs 27 = .ok (.isub, 1) := by decide +kernel
theorem dX12_signs_28 : decode cX12_signs 28 = .ok (.putfield 277, 3) := by decide +kernel
theorem dX12_signs_31 : decode cX12_signs 31 = .ok (.aload_n 0, 1) := by decide +kernel
theorem dX12_signs_32 : decode cX12_signs 32 = .ok (.dup, 1) := by decide +kernel
theorem dX12_signs_33 : decode cX12_signs 33 = .ok (.getfield 292, 3) := by decide +kernel
theorem dX12_signs_36 : decode cX12_signs 36 = .ok (.iconst 1, 1) := by decide +kernel
theorem dX12_signs_37 : decode cX12_signs 37 = .ok (.isub, 1) := by decide +kernel
theorem dX12_signs_38 : decode cX12_signs 38 = .ok (.putfield 292, 3) := by decide +kernel
theorem dX12_signs_41 : decode cX12_signs 41 = .ok (.aload_n 0, 1) := by decide +kernel
theorem dX12_signs_42 : decode cX12_signs 42 = .ok (.invokevirtual 191, 3) := by decide +kernel
theorem dX12_signs_45 : decode cX12_signs 45 = .ok (.iconst 1, 1) := by decide +kernel
theorem dX12_signs_46 : decode cX12_signs 46 = .ok (.ireturn, 1) := by decide +kernel
theorem dX12_signs_47 : decode cX12_signs 47 = .ok (.aload_n 0, 1) := by decide +kernel
theorem dX12_signs_48 : decode cX12_signs 48 = .ok (.bipush 10, 2) := by decide +kernel
theorem dX12_signs_50 : decode cX12_signs 50 = .ok (.invokevirtual 303, 3) := by decide +kernel
theorem dX12_signs_53 : decode cX12_signs 53 = .ok (.ifCond .eq 7, 3) := by decide +kernel
theorem dX12_signs_56 : decode cX12_signs 56 = .ok (.iconst 3, 1) := by decide +kernel
theorem dX12_signs_57 : decode cX12_signs 57 = .ok (.goto 90, 3) := by decide +kernel
theorem dX12_signs_60 : decode cX12_signs 60 = .ok (.aload_n 0, 1) := by decide +kernel
theorem dX12_signs_61 : decode cX12_signs 61 = .ok (.bipush 11, 2) := by decide +kernel
theorem dX12_signs_63 : decode cX12_signs 63 = .ok (.invokevirtual 303, 3) := by decide +kernel
theorem dX12_signs_66 : decode cX12_signs 66 = .ok (.ifCond .eq 7, 3) := by decide +kernel
theorem dX12_signs_69 : decode cX12_signs 69 = .ok (.iconst 4, 1) := by decide +kernel
theorem dX12_signs_70 : decode cX12_signs 70 = .ok (.goto 77, 3) := by decide +kernel
theorem dX12_signs_73 : decode cX12_signs 73 = .ok (.aload_n 0, 1) := by decide +kernel
theorem dX12_signs_74 : decode cX12_signs 74 = .ok (.getfield 157, 3) := by decide +kernel
theorem dX12_signs_77 : decode cX12_signs 77 = .ok (.iconst 5, 1) := by decide +kernel
theorem dX12_signs_78 : decode cX12_signs 78 = .ok (.if_icmp .ne 12, 3) := by decide +kernel
theorem dX12_signs_81 : decode cX12_signs 81 = .ok (.iconst 5, 1) := by decide +kernel
theorem dX12_signs_82 : decode cX12_signs 82 = .ok (.aload_n 0, 1) := by decide +kernel
theorem dX12_signs_83 : decode cX12_signs 83 = .ok (.getfield 168, 3) := by decide +kernel
theorem dX12_signs_86 : decode cX12_signs 86 = .ok (.iadd, 1) := by decide +kernel
theorem dX12_signs_87 : decode cX12_signs 87 = .ok (.goto 60, 3) := by decide +kernel
theorem dX12_signs_90 : decode cX12_signs 90 = .ok (.aload_n 0, 1) := by decide +kernel
theorem dX12_signs_91 : decode cX12_signs 91 = .ok (.bipush 43, 2) := by decide +kernel
theorem dX12_signs_93 : decode cX12_signs 93 = .ok (.invokevirtual 194, 3) := by decide +kernel
theorem dX12_signs_96 : decode cX12_signs 96 = .ok (.ifCond .eq 8, 3) := by decide +kernel
theorem dX12_signs_99 : decode cX12_signs 99 = .ok (.bipush 11, 2) := by decide +kernel
theorem dX12_signs_101 : decode cX12_signs 101 = .ok (.goto 46, 3) := by decide +kernel
theorem dX12_signs_104 : decode cX12_signs 104 = .ok (.aload_n 0, 1) := by decide +kernel
theorem dX12_signs_105 : decode cX12_signs 105 = .ok (.bipush 45, 2) := by decide +kernel
theorem dX12_signs_107 : decode cX12_signs 107 = .ok (.invokevirtual 194, 3) := by decide +kernel
theorem dX12_signs_110 : decode cX12_signs 110 = .ok (.ifCond .eq 8, 3) := by decide +kernel
theorem dX12_signs_113 : decode cX12_signs 113 = .ok (.bipush 12, 2) := by decide +kernel
theorem dX12_signs_115 : decode cX12_signs 115 = .ok (.goto 32, 3) := by decide +kernel
theorem dX12_signs_118 : decode cX12_signs 118 = .ok (.aload_n 0, 1) := by decide +kernel
theorem dX12_signs_119 : decode cX12_signs 119 = .ok (.bipush 42, 2) := by decide +kernel
theorem dX12_signs_121 : decode cX12_signs 121 = .ok (.invokevirtual 194, 3) := by decide +kernel
theorem dX12_signs_124 : decode cX12_signs 124 = .ok (.ifCond .eq 8, 3) := by decide +kernel
theorem dX12_signs_127 : decode cX12_signs 127 = .ok (.bipush 13, 2) := by decide +kernel
theorem dX12_signs_129 : decode cX12_signs 129 = .ok (.goto 18, 3) := by decide +kernel
theorem dX12_signs_132 : decode cX12_signs 132 = .ok (.aload_n 0, 1) := by decide +kernel
theorem dX12_signs_133 : decode cX12_signs 133 = .ok (.bipush 47, 2) := by decide +kernel
theorem dX12_signs_135 : decode cX12_signs 135 = .ok (.invokevirtual 194, 3) := by decide +kernel
theorem dX12_signs_138 : decode cX12_signs 138 = .ok (.ifCond .eq 8, 3) := by decide +kernel
theorem dX12_signs_141 : decode cX12_signs 141 = .ok (.bipush 14, 2) := by decide +kernel
theorem dX12_signs_143 : decode cX12_signs 143 = .ok (.goto 4, 3) := by decide +kernel
theorem dX12_signs_146 : decode cX12_signs 146 = .ok (.iconst 0, 1) := by decide +kernel
theorem dX12_signs_147 : decode cX12_signs 147 = .ok (.istore_n 1, 1) := by decide +kernel
theorem dX12_signs_148 : decode cX12_signs 148 = .ok (.iload_n 1, 1) := by decide +kernel
theorem dX12_signs_149 : decode cX12_signs 149 = .ok (.ifCond .ne 9, 3) := by decide +kernel
theorem dX12_signs_152 : decode cX12_signs 152 = .ok (.aload_n 0, 1) := by decide +kernel
theorem dX12_signs_153 : decode cX12_signs 153 = .ok (.iconst 1, 1) := by decide +kernel
theorem dX12_signs_154 : decode cX12_signs 154 = .ok (.invokevirtual 181, 3) := by decide +kernel
theorem dX12_signs_157 : decode cX12_signs 157 = .ok (.ireturn, 1) := by decide +kernel
theorem dX12_signs_158 : decode cX12_signs 158 = .ok (.aload_n 0, 1) := by decide +kernel
theorem dX12_signs_159 : decode cX12_signs 159 = .ok (.iload_n 1, 1) := by decide +kernel
theorem dX12_signs_160 : decode cX12_signs 160 = .ok (.invokestatic 280, 3) := by decide +kernel
theorem dX12_signs_163 : decode cX12_signs 163 = .ok (.iconst 4, 1) := by decide +kernel
theorem dX12_signs_164 : decode cX12_signs 164 = .ok (.if_icmp .ne 7, 3) := by decide +kernel
theorem dX12_signs_167 : decode cX12_signs 167 = .ok (.iconst 5, 1) := by decide +kernel
theorem dX12_signs_168 : decode cX12_signs 168 = .ok (.goto 7, 3) := by decide +kernel
theorem dX12_signs_171 : decode cX12_signs 171 = .ok (.iload_n 1, 1) := by decide +kernel
theorem dX12_signs_172 : decode cX12_signs 172 = .ok (.invokestatic 280, 3) := by decide +kernel
theorem dX12_signs_175 : decode cX12_signs 175 = .ok (.invokevirtual 315, 3) := by decide +kernel
theorem dX12_signs_178 : decode cX12_signs 178 = .ok (.iload_n 1, 1) := by decide +kernel
theorem dX12_signs_179 : decode cX12_signs 179 = .ok (.invokestatic 280, 3) := by decide +kernel
theorem dX12_signs_182 : decode cX12_signs 182 = .ok (.iconst 4, 1) := by decide +kernel
theorem dX12_signs_183 : decode cX12_signs 183 = .ok (.if_icmp .ne 34, 3) := by decide +kernel
theorem dX12_signs_186 : decode cX12_signs 186 = .ok (.aload_n 0, 1) := by decide +kernel
theorem dX12_signs_187 : decode cX12_signs 187 = .ok (.getfield 277, 3) := by decide +kernel
theorem dX12_signs_190 : decode cX12_signs 190 = .ok (.ifCond .le 27, 3) := by decide +kernel
theorem dX12_signs_193 : decode cX12_signs 193 = .ok (.aload_n 0, 1) := by decide +kernel
theorem dX12_signs_194 : decode cX12_signs 194 = .ok (.getfield 72, 3) := by decide +kernel
theorem dX12_signs_197 : decode cX12_signs 197 = .ok (.aload_n 0, 1) := by decide +kernel
theorem dX12_signs_198 : decode cX12_signs 198 = .ok (.getfield 277, 3) := by decide +kernel
theorem dX12_signs_201 : decode cX12_signs 201 = .ok (.iconst 1, 1) := by decide +kernel
theorem dX12_signs_202 : decode cX12_signs 202 = .ok (.isub, 1) := by decide +kernel
theorem dX12_signs_203 : decode cX12_signs 203 = .ok (.iaload, 1) := by decide +kernel
theorem dX12_signs_204 : decode cX12_signs 204 = .ok (.invokestatic 280, 3) := by decide +kernel
theorem dX12_signs_207 : decode cX12_signs 207 = .ok (.iconst 4, 1) := by decide +kernel
theorem dX12_signs_208 : decode cX12_signs 208 = .ok (.if_icmp .ne 9, 3) := by decide +kernel
theorem dX12_signs_211 : decode cX12_signs 211 = .ok (.aload_n 0, 1) := by decide +kernel
theorem dX12_signs_212 : decode cX12_signs 212 = .ok (.iconst 1, 1) := by decide +kernel
theorem dX12_signs_213 : decode cX12_signs 213 = .ok (.invokevirtual 181, 3) := by decide +kernel
theorem dX12_signs_216 : decode cX12_signs 216 = .ok (.ireturn, 1) := by decide +kernel
theorem dX12_signs_217 : decode cX12_signs 217 = .ok (.aload_n 0, 1) := by decide +kernel
theorem dX12_signs_218 : decode cX12_signs 218 = .ok (.invokevirtual 306, 3) := by decide +kernel
theorem dX12_signs_221 : decode cX12_signs 221 = .ok (.ifCond .ne 5, 3) := by decide +kernel
theorem dX12_signs_224 : decode cX12_signs 224 = .ok (.iconst 0, 1) := by decide +kernel
theorem dX12_signs_225 : decode cX12_signs 225 = .ok (.ireturn, 1) := by decide +kernel
theorem dX12_signs_226 : decode cX12_signs 226 = .ok (.aload_n 0, 1) := by decide +kernel
theorem dX12_signs_227 : decode cX12_signs 227 = .ok (.iload_n 1, 1) := by decide +kernel
theorem dX12_signs_228 : decode cX12_signs 228 = .ok (.invokevirtual 295, 3) := by decide +kernel
theorem dX12_signs_231 : decode cX12_signs 231 = .ok (.aload_n 0, 1) := by decide +kernel
theorem dX12_signs_232 : decode cX12_signs 232 = .ok (.iconst 1, 1) := by decide +kernel
theorem dX12_signs_233 : decode cX12_signs 233 = .ok (.putfield 312, 3) := by decide +kernel
theorem dX12_signs_236 : decode cX12_signs 236 = .ok (.aload_n 0, 1) := by decide +kernel
theorem dX12_signs_237 : decode cX12_signs 237 = .ok (.iload_n 1, 1) := by decide +kernel
theorem dX12_signs_238 : decode cX12_signs 238 = .ok (.invokestatic 280, 3) := by decide +kernel
theorem dX12_signs_241 : decode cX12_signs 241 = .ok (.iconst 3, 1) := by decide +kernel
theorem dX12_signs_242 : decode cX12_signs 242 = .ok (.if_icmp .ge 7, 3) := by decide +kernel
theorem dX12_signs_245 : decode cX12_signs 245 = .ok (.iconst 1, 1) := by decide +kernel
theorem dX12_signs_246 : decode cX12_signs 246 = .ok (.goto 4, 3) := by decide +kernel
theorem dX12_signs_249 : decode cX12_signs 249 = .ok (.iconst 0, 1) := by decide +kernel
theorem dX12_signs_250 : decode cX12_signs 250 = .ok (.putfield 299, 3) := by decide +kernel
theorem dX12_signs_253 : decode cX12_signs 253 = .ok (.aload_n 0, 1) := by decide +kernel
theorem dX12_signs_254 : decode cX12_signs 254 = .ok (.invokevirtual 191, 3) := by decide +kernel
theorem dX12_signs_257 : decode cX12_signs 257 = .ok (.iconst 1, 1) := by decide +kernel
theorem dX12_signs_258 : decode cX12_signs 258 = .ok (.ireturn, 1) := by decide +kernel
theorem dX12_sumRead_0 : decode cX12_sumRead 0 = .ok (.aload_n 0, 1) := by decide +kernel
theorem dX12_sumRead_1 : decode cX12_sumRead 1 = .ok (.iconst 0, 1) := by decide +kernel
theorem dX12_sumRead_2 : decode cX12_sumRead 2 = .ok (.putfield 277, 3) := by decide +kernel
theorem dX12_sumRead_5 : decode cX12_sumRead 5 = .ok (.aload_n 0, 1) := by decide +kernel
theorem dX12_sumRead_6 : decode cX12_sumRead 6 = .ok (.iconst 0, 1) := by decide +kernel
theorem dX12_sumRead_7 : decode cX12_sumRead 7 = .ok (.putfield 274, 3) := by decide +kernel
theorem dX12_sumRead_10 : decode cX12_sumRead 10 = .ok (.aload_n 0, 1) := by decide +kernel
theorem dX12_sumRead_11 : decode cX12_sumRead 11 = .ok (.iconst 0, 1) := by decide +kernel
theorem dX12_sumRead_12 : decode cX12_sumRead 12 = .ok (.putfield 292, 3) := by decide +kernel
theorem dX12_sumRead_15 : decode cX12_sumRead 15 = .ok (.aload_n 0, 1) := by decide +kernel
theorem dX12_sumRead_16 : decode cX12_sumRead 16 = .ok (.iconst 1, 1) := by decide +kernel
theorem dX12_sumRead_17 : decode cX12_sumRead 17 = .ok (.putfield 312, 3) := by decide +kernel
theorem dX12_sumRead_20 : decode cX12_sumRead 20 = .ok (.aload_n 0, 1) := by decide +kernel
theorem dX12_sumRead_21 : decode cX12_sumRead 21 = .ok (.iconst 1, 1) := by decide +kernel
theorem dX12_sumRead_22 : decode cX12_sumRead 22 = .ok (.putfield 299, 3) := by decide +kernel
theorem dX12_sumRead_25 : decode cX12_sumRead 25 = .ok (.aload_n 0, 1) := by decide +kernel
theorem dX12_sumRead_26 : decode cX12_sumRead 26 = .ok (.bipush 59, 2) := by decide +kernel
theorem dX12_sumRead_28 : decode cX12_sumRead 28 = .ok (.invokevirtual 194, 3) := by decide +kernel
theorem dX12_sumRead_31 : decode cX12_sumRead 31 = .ok (.ifCond .eq 17, 3) := by decide +kernel
theorem dX12_sumRead_34 : decode cX12_sumRead 34 = .ok (.aload_n 0, 1) := by decide +kernel
theorem dX12_sumRead_35 : decode cX12_sumRead 35 = .ok (.getfield 312, 3) := by decide +kernel
theorem dX12_sumRead_38 : decode cX12_sumRead 38 = .ok (.ifCond .ne 10, 3) := by decide +kernel
theorem dX12_sumRead_41 : decode cX12_sumRead 41 = .ok (.aload_n 0, 1) := by decide +kernel
theorem dX12_sumRead_42 : decode cX12_sumRead 42 = .ok (.getfield 292, 3) := by decide +kernel
theorem dX12_sumRead_45 : decode cX12_sumRead 45 = .ok (.ifCond .le 29, 3) := by decide +kernel
theorem dX12_sumRead_48 : decode cX12_sumRead 48 = .ok (.aload_n 0, 1) := by decide +kernel
theorem dX12_sumRead_49 : decode cX12_sumRead 49 = .ok (.getfield 312, 3) := by decide +kernel
theorem dX12_sumRead_52 : decode cX12_sumRead 52 = .ok (.ifCond .eq 13, 3) := by decide +kernel
theorem dX12_sumRead_55 : decode cX12_sumRead 55 = .ok (.aload_n 0, 1) := by decide +kernel
theorem dX12_sumRead_56 : decode cX12_sumRead 56 = .ok (.invokevirtual 318, 3) := by decide +kernel
theorem dX12_sumRead_59 : decode cX12_sumRead 59 = .ok (.ifCond .eq 13, 3) := by decide +kernel
theorem dX12_sumRead_62 : decode cX12_sumRead 62 = .ok (.goto (-37), 3) := by decide +kernel
theorem dX12_sumRead_65 : decode cX12_sumRead 65 = .ok (.aload_n 0, 1) := by decide +kernel
theorem dX12_sumRead_66 : decode cX12_sumRead 66 = .ok (.invokevirtual 321, 3) := by decide +kernel
theorem dX12_sumRead_69 : decode cX12_sumRead 69 = .ok (.ifCond .ne (-44), 3) := by decide +kernel
theorem dX12_sumRead_72 : decode cX12_sumRead 72 = .ok (.iconst 0, 1) := by decide +kernel
theorem dX12_sumRead_73 : decode cX12_sumRead 73 = .ok (.ireturn, 1) := by decide +kernel
theorem dX12_sumRead_74 : decode cX12_sumRead 74 = .ok (.aload_n 0, 1) := by decide +kernel
theorem dX12_sumRead_75 : decode cX12_sumRead 75 = .ok (.iconst 1, 1) := by decide +kernel
theorem dX12_sumRead_76 : decode cX12_sumRead 76 = .ok (.invokevirtual 315, 3) := by decide +kernel
theorem dX12_sumRead_79 : decode cX12_sumRead 79 = .ok (.iconst 1, 1) := by decide +kernel
theorem dX12_sumRead_80 : decode cX12_sumRead 80 = .ok (.ireturn, 1) := by decide +kernel
theorem dX12_bounded_0 : decode cX12_bounded 0 = .ok (.aload_n 0, 1) := by decide +kernel
theorem dX12_bounded_1 : decode cX12_bounded 1 = .ok (.aload_n 0, 1) := by decide +kernel
theorem dX12_bounded_2 : decode cX12_bounded 2 = .ok (.getfield 324, 3) := by decide +kernel
theorem dX12_bounded_5 : decode cX12_bounded 5 = .ok (.ifCond .ne 19, 3) := by decide +kernel
theorem dX12_bounded_8 : decode cX12_bounded 8 = .ok (.lload_n 1, 1) := by decide +kernel
theorem dX12_bounded_9 : decode cX12_bounded 9 = .ok (.ldc2_w 327, 3) := by decide +kernel
theorem dX12_bounded_12 : decode cX12_bounded 12 = .ok (.lcmp, 1) := by decide +kernel
theorem dX12_bounded_13 : decode cX12_bounded 13 = .ok (.ifCond .gt 11, 3) := by decide +kernel
theorem dX12_bounded_16 : decode cX12_bounded 16 = .ok (.lload_n 1, 1) := by decide +kernel
theorem dX12_bounded_17 : decode cX12_bounded 17 = .ok (.ldc2_w 329, 3) := by decide +kernel
theorem dX12_bounded_20 : decode cX12_bounded 20 = .ok (.lcmp, 1) := by decide +kernel
theorem dX12_bounded_21 : decode cX12_bounded 21 = .ok (.ifCond .ge 7, 3) := by decide +kernel
theorem dX12_bounded_24 : decode cX12_bounded 24 = .ok (.iconst 1, 1) := by decide +kernel
theorem dX12_bounded_25 : decode cX12_bounded 25 = .ok (.goto 4, 3) := by decide +kernel
theorem dX12_bounded_28 : decode cX12_bounded 28 = .ok (.iconst 0, 1) := by decide +kernel
theorem dX12_bounded_29 : decode cX12_bounded 29 = .ok (.putfield 324, 3) := by decide +kernel
theorem dX12_bounded_32 : decode cX12_bounded 32 = .ok (.aload_n 0, 1) := by decide +kernel
theorem dX12_bounded_33 : decode cX12_bounded 33 = .ok (.getfield 324, 3) := by decide +kernel
theorem dX12_bounded_36 : decode cX12_bounded 36 = .ok (.ifCond .eq 7, 3) := by decide +kernel
theorem dX12_bounded_39 : decode cX12_bounded 39 = .ok (.lconst 0, 1) := by decide +kernel
theorem dX12_bounded_40 : decode cX12_bounded 40 = .ok (.goto 4, 3) := by decide +kernel
theorem dX12_bounded_43 : decode cX12_bounded 43 = .ok (.lload_n 1, 1) := by decide +kernel
theorem dX12_bounded_44 : decode cX12_bounded 44 = .ok (.lreturn, 1) := by decide +kernel
theorem dX12_compares_0 : decode cX12_compares 0 = .ok (.iload_n 0, 1) := by decide +kernel
theorem dX12_compares_1 : decode cX12_compares 1 = .ok (.tableswitch 95 5 9 #[35, 47, 59, 71, 83], 35) := by decide +kernel
theorem dX12_compares_36 : decode cX12_compares 36 = .ok (.lload_n 1, 1) := by decide +kernel
theorem dX12_compares_37 : decode cX12_compares 37 = .ok (.lload_n 3, 1) := by decide +kernel
theorem dX12_compares_38 : decode cX12_compares 38 = .ok (.lcmp, 1) := by decide +kernel
theorem dX12_compares_39 : decode cX12_compares 39 = .ok (.ifCond .ge 7, 3) := by decide +kernel
theorem dX12_compares_42 : decode cX12_compares 42 = .ok (.iconst 1, 1) := by decide +kernel
theorem dX12_compares_43 : decode cX12_compares 43 = .ok (.goto 4, 3) := by decide +kernel
theorem dX12_compares_46 : decode cX12_compares 46 = .ok (.iconst 0, 1) := by decide +kernel
theorem dX12_compares_47 : decode cX12_compares 47 = .ok (.ireturn, 1) := by decide +kernel
theorem dX12_compares_48 : decode cX12_compares 48 = .ok (.lload_n 1, 1) := by decide +kernel
theorem dX12_compares_49 : decode cX12_compares 49 = .ok (.lload_n 3, 1) := by decide +kernel
theorem dX12_compares_50 : decode cX12_compares 50 = .ok (.lcmp, 1) := by decide +kernel
theorem dX12_compares_51 : decode cX12_compares 51 = .ok (.ifCond .gt 7, 3) := by decide +kernel
theorem dX12_compares_54 : decode cX12_compares 54 = .ok (.iconst 1, 1) := by decide +kernel
theorem dX12_compares_55 : decode cX12_compares 55 = .ok (.goto 4, 3) := by decide +kernel
theorem dX12_compares_58 : decode cX12_compares 58 = .ok (.iconst 0, 1) := by decide +kernel
theorem dX12_compares_59 : decode cX12_compares 59 = .ok (.ireturn, 1) := by decide +kernel
theorem dX12_compares_60 : decode cX12_compares 60 = .ok (.lload_n 1, 1) := by decide +kernel
theorem dX12_compares_61 : decode cX12_compares 61 = .ok (.lload_n 3, 1) := by decide +kernel
theorem dX12_compares_62 : decode cX12_compares 62 = .ok (.lcmp, 1) := by decide +kernel
theorem dX12_compares_63 : decode cX12_compares 63 = .ok (.ifCond .ne 7, 3) := by decide +kernel
theorem dX12_compares_66 : decode cX12_compares 66 = .ok (.iconst 1, 1) := by decide +kernel
theorem dX12_compares_67 : decode cX12_compares 67 = .ok (.goto 4, 3) := by decide +kernel
theorem dX12_compares_70 : decode cX12_compares 70 = .ok (.iconst 0, 1) := by decide +kernel
theorem dX12_compares_71 : decode cX12_compares 71 = .ok (.ireturn, 1) := by decide +kernel
theorem dX12_compares_72 : decode cX12_compares 72 = .ok (.lload_n 1, 1) := by decide +kernel
theorem dX12_compares_73 : decode cX12_compares 73 = .ok (.lload_n 3, 1) := by decide +kernel
theorem dX12_compares_74 : decode cX12_compares 74 = .ok (.lcmp, 1) := by decide +kernel
theorem dX12_compares_75 : decode cX12_compares 75 = .ok (.ifCond .eq 7, 3) := by decide +kernel
theorem dX12_compares_78 : decode cX12_compares 78 = .ok (.iconst 1, 1) := by decide +kernel
theorem dX12_compares_79 : decode cX12_compares 79 = .ok (.goto 4, 3) := by decide +kernel
theorem dX12_compares_82 : decode cX12_compares 82 = .ok (.iconst 0, 1) := by decide +kernel
theorem dX12_compares_83 : decode cX12_compares 83 = .ok (.ireturn, 1) := by decide +kernel
theorem dX12_compares_84 : decode cX12_compares 84 = .ok (.lload_n 1, 1) := by decide +kernel
theorem dX12_compares_85 : decode cX12_compares 85 = .ok (.lload_n 3, 1) := by decide +kernel
theorem dX12_compares_86 : decode cX12_compares 86 = .ok (.lcmp, 1) := by decide +kernel
theorem dX12_compares_87 : decode cX12_compares 87 = .ok (.ifCond .lt 7, 3) := by decide +kernel
theorem dX12_compares_90 : decode cX12_compares 90 = .ok (.iconst 1, 1) := by decide +kernel
theorem dX12_compares_91 : decode cX12_compares 91 = .ok (.goto 4, 3) := by decide +kernel
theorem dX12_compares_94 : decode cX12_compares 94 = .ok (.iconst 0, 1) := by decide +kernel
theorem dX12_compares_95 : decode cX12_compares 95 = .ok (.ireturn, 1) := by decide +kernel
theorem dX12_compares_96 : decode cX12_compares 96 = .ok (.lload_n 1, 1) := by decide +kernel
theorem dX12_compares_97 : decode cX12_compares 97 = .ok (.lload_n 3, 1) := by decide +kernel
theorem dX12_compares_98 : decode cX12_compares 98 = .ok (.lcmp, 1) := by decide +kernel
theorem dX12_compares_99 : decode cX12_compares 99 = .ok (.ifCond .le 7, 3) := by decide +kernel
theorem dX12_compares_102 : decode cX12_compares 102 = .ok (.iconst 1, 1) := by decide +kernel
theorem dX12_compares_103 : decode cX12_compares 103 = .ok (.goto 4, 3) := by decide +kernel
theorem dX12_compares_106 : decode cX12_compares 106 = .ok (.iconst 0, 1) := by decide +kernel
theorem dX12_compares_107 : decode cX12_compares 107 = .ok (.ireturn, 1) := by decide +kernel
theorem dX12_times_0 : decode cX12_times 0 = .ok (.lload_n 1, 1) := by decide +kernel
theorem dX12_times_1 : decode cX12_times 1 = .ok (.lconst 0, 1) := by decide +kernel
theorem dX12_times_2 : decode cX12_times 2 = .ok (.lcmp, 1) := by decide +kernel
theorem dX12_times_3 : decode cX12_times 3 = .ok (.ifCond .eq 45, 3) := by decide +kernel
theorem dX12_times_6 : decode cX12_times 6 = .ok (.lload_n 3, 1) := by decide +kernel
theorem dX12_times_7 : decode cX12_times 7 = .ok (.lconst 0, 1) := by decide +kernel
theorem dX12_times_8 : decode cX12_times 8 = .ok (.lcmp, 1) := by decide +kernel
theorem dX12_times_9 : decode cX12_times 9 = .ok (.ifCond .eq 39, 3) := by decide +kernel
theorem dX12_times_12 : decode cX12_times 12 = .ok (.lload_n 3, 1) := by decide +kernel
theorem dX12_times_13 : decode cX12_times 13 = .ok (.lconst 0, 1) := by decide +kernel
theorem dX12_times_14 : decode cX12_times 14 = .ok (.lcmp, 1) := by decide +kernel
theorem dX12_times_15 : decode cX12_times 15 = .ok (.ifCond .ge 8, 3) := by decide +kernel
theorem dX12_times_18 : decode cX12_times 18 = .ok (.lload_n 3, 1) := by decide +kernel
theorem dX12_times_19 : decode cX12_times 19 = .ok (.lneg, 1) := by decide +kernel
theorem dX12_times_20 : decode cX12_times 20 = .ok (.goto 4, 3) := by decide +kernel
theorem dX12_times_23 : decode cX12_times 23 = .ok (.lload_n 3, 1) := by decide +kernel
theorem dX12_times_24 : decode cX12_times 24 = .ok (.ldc2_w 327, 3) := by decide +kernel
theorem dX12_times_27 : decode cX12_times 27 = .ok (.lload_n 1, 1) := by decide +kernel
theorem dX12_times_28 : decode cX12_times 28 = .ok (.lconst 0, 1) := by decide +kernel
theorem dX12_times_29 : decode cX12_times 29 = .ok (.lcmp, 1) := by decide +kernel
theorem dX12_times_30 : decode cX12_times 30 = .ok (.ifCond .ge 8, 3) := by decide +kernel
theorem dX12_times_33 : decode cX12_times 33 = .ok (.lload_n 1, 1) := by decide +kernel
theorem dX12_times_34 : decode cX12_times 34 = .ok (.lneg, 1) := by decide +kernel
theorem dX12_times_35 : decode cX12_times 35 = .ok (.goto 4, 3) := by decide +kernel
theorem dX12_times_38 : decode cX12_times 38 = .ok (.lload_n 1, 1) := by decide +kernel
theorem dX12_times_39 : decode cX12_times 39 = .ok (.ldiv, 1) := by decide +kernel
theorem dX12_times_40 : decode cX12_times 40 = .ok (.lcmp, 1) := by decide +kernel
theorem dX12_times_41 : decode cX12_times 41 = .ok (.ifCond .le 7, 3) := by decide +kernel
theorem dX12_times_44 : decode cX12_times 44 = .ok (.iconst 1, 1) := by decide +kernel
theorem dX12_times_45 : decode cX12_times 45 = .ok (.goto 4, 3) := by decide +kernel
theorem dX12_times_48 : decode cX12_times 48 = .ok (.iconst 0, 1) := by decide +kernel
theorem dX12_times_49 : decode cX12_times 49 = .ok (.istore 5, 2) := by decide +kernel
theorem dX12_times_51 : decode cX12_times 51 = .ok (.aload_n 0, 1) := by decide +kernel
theorem dX12_times_52 : decode cX12_times 52 = .ok (.aload_n 0, 1) := by decide +kernel
theorem dX12_times_53 : decode cX12_times 53 = .ok (.getfield 324, 3) := by decide +kernel
theorem dX12_times_56 : decode cX12_times 56 = .ok (.ifCond .ne 8, 3) := by decide +kernel
theorem dX12_times_59 : decode cX12_times 59 = .ok (.iload 5, 2) := by decide +kernel
theorem dX12_times_61 : decode cX12_times 61 = .ok (.ifCond .eq 7, 3) := by decide +kernel
theorem dX12_times_64 : decode cX12_times 64 = .ok (.iconst 1, 1) := by decide +kernel
theorem dX12_times_65 : decode cX12_times 65 = .ok (.goto 4, 3) := by decide +kernel
theorem dX12_times_68 : decode cX12_times 68 = .ok (.iconst 0, 1) := by decide +kernel
theorem dX12_times_69 : decode cX12_times 69 = .ok (.putfield 324, 3) := by decide +kernel
theorem dX12_times_72 : decode cX12_times 72 = .ok (.aload_n 0, 1) := by decide +kernel
theorem dX12_times_73 : decode cX12_times 73 = .ok (.getfield 324, 3) := by decide +kernel
theorem dX12_times_76 : decode cX12_times 76 = .ok (.ifCond .eq 7, 3) := by decide +kernel
theorem dX12_times_79 : decode cX12_times 79 = .ok (.lconst 0, 1) := by decide +kernel
theorem dX12_times_80 : decode cX12_times 80 = .ok (.goto 6, 3) := by decide +kernel
theorem dX12_times_83 : decode cX12_times 83 = .ok (.lload_n 1, 1) := by decide +kernel
theorem dX12_times_84 : decode cX12_times 84 = .ok (.lload_n 3, 1) := by decide +kernel
theorem dX12_times_85 : decode cX12_times 85 = .ok (.lmul, 1) := by decide +kernel
theorem dX12_times_86 : decode cX12_times 86 = .ok (.lreturn, 1) := by decide +kernel
theorem dX12_valueOf_0 : decode cX12_valueOf 0 = .ok (.aload_n 0, 1) := by decide +kernel
theorem dX12_valueOf_1 : decode cX12_valueOf 1 = .ok (.getfield 63, 3) := by decide +kernel
theorem dX12_valueOf_4 : decode cX12_valueOf 4 = .ok (.iload_n 1, 1) := by decide +kernel
theorem dX12_valueOf_5 : decode cX12_valueOf 5 = .ok (.iaload, 1) := by decide +kernel
theorem dX12_valueOf_6 : decode cX12_valueOf 6 = .ok (.ifCond .ne 11, 3) := by decide +kernel
theorem dX12_valueOf_9 : decode cX12_valueOf 9 = .ok (.aload_n 0, 1) := by decide +kernel
theorem dX12_valueOf_10 : decode cX12_valueOf 10 = .ok (.getfield 66, 3) := by decide +kernel
theorem dX12_valueOf_13 : decode cX12_valueOf 13 = .ok (.iload_n 1, 1) := by decide +kernel
theorem dX12_valueOf_14 : decode cX12_valueOf 14 = .ok (.iaload, 1) := by decide +kernel
theorem dX12_valueOf_15 : decode cX12_valueOf 15 = .ok (.i2l, 1) := by decide +kernel
theorem dX12_valueOf_16 : decode cX12_valueOf 16 = .ok (.lreturn, 1) := by decide +kernel
theorem dX12_valueOf_17 : decode cX12_valueOf 17 = .ok (.aload_n 0, 1) := by decide +kernel
theorem dX12_valueOf_18 : decode cX12_valueOf 18 = .ok (.getfield 63, 3) := by decide +kernel
theorem dX12_valueOf_21 : decode cX12_valueOf 21 = .ok (.iload_n 1, 1) := by decide +kernel
theorem dX12_valueOf_22 : decode cX12_valueOf 22 = .ok (.iaload, 1) := by decide +kernel
theorem dX12_valueOf_23 : decode cX12_valueOf 23 = .ok (.iconst 1, 1) := by decide +kernel
theorem dX12_valueOf_24 : decode cX12_valueOf 24 = .ok (.if_icmp .ne 15, 3) := by decide +kernel
theorem dX12_valueOf_27 : decode cX12_valueOf 27 = .ok (.aload_n 0, 1) := by decide +kernel
theorem dX12_valueOf_28 : decode cX12_valueOf 28 = .ok (.getfield 78, 3) := by decide +kernel
theorem dX12_valueOf_31 : decode cX12_valueOf 31 = .ok (.aload_n 0, 1) := by decide +kernel
theorem dX12_valueOf_32 : decode cX12_valueOf 32 = .ok (.getfield 66, 3) := by decide +kernel
theorem dX12_valueOf_35 : decode cX12_valueOf 35 = .ok (.iload_n 1, 1) := by decide +kernel
theorem dX12_valueOf_36 : decode cX12_valueOf 36 = .ok (.iaload, 1) := by decide +kernel
theorem dX12_valueOf_37 : decode cX12_valueOf 37 = .ok (.laload, 1) := by decide +kernel
theorem dX12_valueOf_38 : decode cX12_valueOf 38 = .ok (.lreturn, 1) := by decide +kernel
theorem dX12_valueOf_39 : decode cX12_valueOf 39 = .ok (.aload_n 0, 1) := by decide +kernel
theorem dX12_valueOf_40 : decode cX12_valueOf 40 = .ok (.getfield 82, 3) := by decide +kernel
theorem dX12_valueOf_43 : decode cX12_valueOf 43 = .ok (.aload_n 0, 1) := by decide +kernel
theorem dX12_valueOf_44 : decode cX12_valueOf 44 = .ok (.getfield 66, 3) := by decide +kernel
theorem dX12_valueOf_47 : decode cX12_valueOf 47 = .ok (.iload_n 1, 1) := by decide +kernel
theorem dX12_valueOf_48 : decode cX12_valueOf 48 = .ok (.iaload, 1) := by decide +kernel
theorem dX12_valueOf_49 : decode cX12_valueOf 49 = .ok (.laload, 1) := by decide +kernel
theorem dX12_valueOf_50 : decode cX12_valueOf 50 = .ok (.lstore_n 2, 1) := by decide +kernel
theorem dX12_valueOf_51 : decode cX12_valueOf 51 = .ok (.aload_n 0, 1) := by decide +kernel
theorem dX12_valueOf_52 : decode cX12_valueOf 52 = .ok (.getfield 63, 3) := by decide +kernel
theorem dX12_valueOf_55 : decode cX12_valueOf 55 = .ok (.iload_n 1, 1) := by decide +kernel
theorem dX12_valueOf_56 : decode cX12_valueOf 56 = .ok (.iaload, 1) := by decide +kernel
theorem dX12_valueOf_57 : decode cX12_valueOf 57 = .ok (.iconst 2, 1) := by decide +kernel
theorem dX12_valueOf_58 : decode cX12_valueOf 58 = .ok (.if_icmp .ne 15, 3) := by decide +kernel
theorem dX12_valueOf_61 : decode cX12_valueOf 61 = .ok (.lload_n 2, 1) := by decide +kernel
theorem dX12_valueOf_62 : decode cX12_valueOf 62 = .ok (.lconst 0, 1) := by decide +kernel
theorem dX12_valueOf_63 : decode cX12_valueOf 63 = .ok (.lcmp, 1) := by decide +kernel
theorem dX12_valueOf_64 : decode cX12_valueOf 64 = .ok (.ifCond .ne 7, 3) := by decide +kernel
theorem dX12_valueOf_67 : decode cX12_valueOf 67 = .ok (.lconst 1, 1) := by decide +kernel
theorem dX12_valueOf_68 : decode cX12_valueOf 68 = .ok (.goto 4, 3) := by decide +kernel
theorem dX12_valueOf_71 : decode cX12_valueOf 71 = .ok (.lconst 0, 1) := by decide +kernel
theorem dX12_valueOf_72 : decode cX12_valueOf 72 = .ok (.lreturn, 1) := by decide +kernel
theorem dX12_valueOf_73 : decode cX12_valueOf 73 = .ok (.aload_n 0, 1) := by decide +kernel
theorem dX12_valueOf_74 : decode cX12_valueOf 74 = .ok (.getfield 82, 3) := by decide +kernel
theorem dX12_valueOf_77 : decode cX12_valueOf 77 = .ok (.aload_n 0, 1) := by decide +kernel
theorem dX12_valueOf_78 : decode cX12_valueOf 78 = .ok (.getfield 69, 3) := by decide +kernel
theorem dX12_valueOf_81 : decode cX12_valueOf 81 = .ok (.iload_n 1, 1) := by decide +kernel
theorem dX12_valueOf_82 : decode cX12_valueOf 82 = .ok (.iaload, 1) := by decide +kernel
theorem dX12_valueOf_83 : decode cX12_valueOf 83 = .ok (.laload, 1) := by decide +kernel
theorem dX12_valueOf_84 : decode cX12_valueOf 84 = .ok (.lstore 4, 2) := by decide +kernel
theorem dX12_valueOf_86 : decode cX12_valueOf 86 = .ok (.aload_n 0, 1) := by decide +kernel
theorem dX12_valueOf_87 : decode cX12_valueOf 87 = .ok (.getfield 63, 3) := by decide +kernel
theorem dX12_valueOf_90 : decode cX12_valueOf 90 = .ok (.iload_n 1, 1) := by decide +kernel
theorem dX12_valueOf_91 : decode cX12_valueOf 91 = .ok (.iaload, 1) := by decide +kernel
theorem dX12_valueOf_92 : decode cX12_valueOf 92 = .ok (.tableswitch 167 3 14 #[64, 83, 167, 167, 167, 167, 167, 167, 102, 111, 120, 128], 64) := by decide +kernel
theorem dX12_valueOf_156 : decode cX12_valueOf 156 = .ok (.lload_n 2, 1) := by decide +kernel
theorem dX12_valueOf_157 : decode cX12_valueOf 157 = .ok (.lconst 0, 1) := by decide +kernel
theorem dX12_valueOf_158 : decode cX12_valueOf 158 = .ok (.lcmp, 1) := by decide +kernel
theorem dX12_valueOf_159 : decode cX12_valueOf 159 = .ok (.ifCond .eq 14, 3) := by decide +kernel
theorem dX12_valueOf_162 : decode cX12_valueOf 162 = .ok (.lload 4, 2) := by decide +kernel
theorem dX12_valueOf_164 : decode cX12_valueOf 164 = .ok (.lconst 0, 1) := by decide +kernel
theorem dX12_valueOf_165 : decode cX12_valueOf 165 = .ok (.lcmp, 1) := by decide +kernel
theorem dX12_valueOf_166 : decode cX12_valueOf 166 = .ok (.ifCond .eq 7, 3) := by decide +kernel
theorem dX12_valueOf_169 : decode cX12_valueOf 169 = .ok (.lconst 1, 1) := by decide +kernel
theorem dX12_valueOf_170 : decode cX12_valueOf 170 = .ok (.goto 4, 3) := by decide +kernel
theorem dX12_valueOf_173 : decode cX12_valueOf 173 = .ok (.lconst 0, 1) := by decide +kernel
theorem dX12_valueOf_174 : decode cX12_valueOf 174 = .ok (.lreturn, 1) := by decide +kernel
theorem dX12_valueOf_175 : decode cX12_valueOf 175 = .ok (.lload_n 2, 1) := by decide +kernel
theorem dX12_valueOf_176 : decode cX12_valueOf 176 = .ok (.lconst 0, 1) := by decide +kernel
theorem dX12_valueOf_177 : decode cX12_valueOf 177 = .ok (.lcmp, 1) := by decide +kernel
theorem dX12_valueOf_178 : decode cX12_valueOf 178 = .ok (.ifCond .ne 10, 3) := by decide +kernel
theorem dX12_valueOf_181 : decode cX12_valueOf 181 = .ok (.lload 4, 2) := by decide +kernel
theorem dX12_valueOf_183 : decode cX12_valueOf 183 = .ok (.lconst 0, 1) := by decide +kernel
theorem dX12_valueOf_184 : decode cX12_valueOf 184 = .ok (.lcmp, 1) := by decide +kernel
theorem dX12_valueOf_185 : decode cX12_valueOf 185 = .ok (.ifCond .eq 7, 3) := by decide +kernel
theorem dX12_valueOf_188 : decode cX12_valueOf 188 = .ok (.lconst 1, 1) := by decide +kernel
theorem dX12_valueOf_189 : decode cX12_valueOf 189 = .ok (.goto 4, 3) := by decide +kernel
theorem dX12_valueOf_192 : decode cX12_valueOf 192 = .ok (.lconst 0, 1) := by decide +kernel
theorem dX12_valueOf_193 : decode cX12_valueOf 193 = .ok (.lreturn, 1) := by decide +kernel
theorem dX12_valueOf_194 : decode cX12_valueOf 194 = .ok (.aload_n 0, 1) := by decide +kernel
theorem dX12_valueOf_195 : decode cX12_valueOf 195 = .ok (.lload_n 2, 1) := by decide +kernel
theorem dX12_valueOf_196 : decode cX12_valueOf 196 = .ok (.lload 4, 2) := by decide +kernel
theorem dX12_valueOf_198 : decode cX12_valueOf 198 = .ok (.ladd, 1) := by decide +kernel
theorem dX12_valueOf_199 : decode cX12_valueOf 199 = .ok (.invokevirtual 331, 3) := by decide +kernel
theorem dX12_valueOf_202 : decode cX12_valueOf 202 = .ok (.lreturn, 1) := by decide +kernel
theorem dX12_valueOf_203 : decode cX12_valueOf 203 = .ok (.aload_n 0, 1) := by decide +kernel
theorem dX12_valueOf_204 : decode cX12_valueOf 204 = .ok (.lload_n 2, 1) := by decide +kernel
theorem dX12_valueOf_205 : decode cX12_valueOf 205 = .ok (.lload 4, 2) := by decide +kernel
theorem dX12_valueOf_207 : decode cX12_valueOf 207 = .ok (.lsub, 1) := by decide +kernel
theorem dX12_valueOf_208 : decode cX12_valueOf 208 = .ok (.invokevirtual 331, 3) := by decide +kernel
theorem dX12_valueOf_211 : decode cX12_valueOf 211 = .ok (.lreturn, 1) := by decide +kernel
theorem dX12_valueOf_212 : decode cX12_valueOf 212 = .ok (.aload_n 0, 1) := by decide +kernel
theorem dX12_valueOf_213 : decode cX12_valueOf 213 = .ok (.lload_n 2, 1) := by decide +kernel
theorem dX12_valueOf_214 : decode cX12_valueOf 214 = .ok (.lload 4, 2) := by decide +kernel
theorem dX12_valueOf_216 : decode cX12_valueOf 216 = .ok (.invokevirtual 335, 3) := by decide +kernel
theorem dX12_valueOf_219 : decode cX12_valueOf 219 = .ok (.lreturn, 1) := by decide +kernel
theorem dX12_valueOf_220 : decode cX12_valueOf 220 = .ok (.aload_n 0, 1) := by decide +kernel
theorem dX12_valueOf_221 : decode cX12_valueOf 221 = .ok (.aload_n 0, 1) := by decide +kernel
theorem dX12_valueOf_222 : decode cX12_valueOf 222 = .ok (.getfield 324, 3) := by decide +kernel
theorem dX12_valueOf_225 : decode cX12_valueOf 225 = .ok (.ifCond .ne 10, 3) := by decide +kernel
theorem dX12_valueOf_228 : decode cX12_valueOf 228 = .ok (.lload 4, 2) := by decide +kernel
theorem dX12_valueOf_230 : decode cX12_valueOf 230 = .ok (.lconst 0, 1) := by decide +kernel
theorem dX12_valueOf_231 : decode cX12_valueOf 231 = .ok (.lcmp, 1) := by decide +kernel
theorem dX12_valueOf_232 : decode cX12_valueOf 232 = .ok (.ifCond .ne 7, 3) := by decide +kernel
theorem dX12_valueOf_235 : decode cX12_valueOf 235 = .ok (.iconst 1, 1) := by decide +kernel
theorem dX12_valueOf_236 : decode cX12_valueOf 236 = .ok (.goto 4, 3) := by decide +kernel
theorem dX12_valueOf_239 : decode cX12_valueOf 239 = .ok (.iconst 0, 1) := by decide +kernel
theorem dX12_valueOf_240 : decode cX12_valueOf 240 = .ok (.putfield 324, 3) := by decide +kernel
theorem dX12_valueOf_243 : decode cX12_valueOf 243 = .ok (.aload_n 0, 1) := by decide +kernel
theorem dX12_valueOf_244 : decode cX12_valueOf 244 = .ok (.getfield 324, 3) := by decide +kernel
theorem dX12_valueOf_247 : decode cX12_valueOf 247 = .ok (.ifCond .eq 7, 3) := by decide +kernel
theorem dX12_valueOf_250 : decode cX12_valueOf 250 = .ok (.lconst 0, 1) := by decide +kernel
theorem dX12_valueOf_251 : decode cX12_valueOf 251 = .ok (.goto 7, 3) := by decide +kernel
theorem dX12_valueOf_254 : decode cX12_valueOf 254 = .ok (.lload_n 2, 1) := by decide +kernel
theorem dX12_valueOf_255 : decode cX12_valueOf 255 = .ok (.lload 4, 2) := by decide +kernel
theorem dX12_valueOf_257 : decode cX12_valueOf 257 = .ok (.ldiv, 1) := by decide +kernel
theorem dX12_valueOf_258 : decode cX12_valueOf 258 = .ok (.lreturn, 1) := by decide +kernel
theorem dX12_valueOf_259 : decode cX12_valueOf 259 = .ok (.aload_n 0, 1) := by decide +kernel
theorem dX12_valueOf_260 : decode cX12_valueOf 260 = .ok (.getfield 63, 3) := by decide +kernel
theorem dX12_valueOf_263 : decode cX12_valueOf 263 = .ok (.iload_n 1, 1) := by decide +kernel
theorem dX12_valueOf_264 : decode cX12_valueOf 264 = .ok (.iaload, 1) := by decide +kernel
theorem dX12_valueOf_265 : decode cX12_valueOf 265 = .ok (.lload_n 2, 1) := by decide +kernel
theorem dX12_valueOf_266 : decode cX12_valueOf 266 = .ok (.lload 4, 2) := by decide +kernel
theorem dX12_valueOf_268 : decode cX12_valueOf 268 = .ok (.invokestatic 339, 3) := by decide +kernel
theorem dX12_valueOf_271 : decode cX12_valueOf 271 = .ok (.ifCond .eq 7, 3) := by decide +kernel
theorem dX12_valueOf_274 : decode cX12_valueOf 274 = .ok (.lconst 1, 1) := by decide +kernel
theorem dX12_valueOf_275 : decode cX12_valueOf 275 = .ok (.goto 4, 3) := by decide +kernel
theorem dX12_valueOf_278 : decode cX12_valueOf 278 = .ok (.lconst 0, 1) := by decide +kernel
theorem dX12_valueOf_279 : decode cX12_valueOf 279 = .ok (.lreturn, 1) := by decide +kernel
theorem dX12_begin_0 : decode cX12_begin 0 = .ok (.iconst 0, 1) := by decide +kernel
theorem dX12_begin_1 : decode cX12_begin 1 = .ok (.istore_n 1, 1) := by decide +kernel
theorem dX12_begin_2 : decode cX12_begin 2 = .ok (.iload_n 1, 1) := by decide +kernel
theorem dX12_begin_3 : decode cX12_begin 3 = .ok (.bipush 6, 2) := by decide +kernel
theorem dX12_begin_5 : decode cX12_begin 5 = .ok (.if_icmp .ge 61, 3) := by decide +kernel
theorem dX12_begin_8 : decode cX12_begin 8 = .ok (.aload_n 0, 1) := by decide +kernel
theorem dX12_begin_9 : decode cX12_begin 9 = .ok (.getfield 85, 3) := by decide +kernel
theorem dX12_begin_12 : decode cX12_begin 12 = .ok (.iload_n 1, 1) := by decide +kernel
theorem dX12_begin_13 : decode cX12_begin 13 = .ok (.aload_n 0, 1) := by decide +kernel
theorem dX12_begin_14 : decode cX12_begin 14 = .ok (.getfield 30, 3) := by decide +kernel
theorem dX12_begin_17 : decode cX12_begin 17 = .ok (.iload_n 1, 1) := by decide +kernel
theorem dX12_begin_18 : decode cX12_begin 18 = .ok (.iaload, 1) := by decide +kernel
theorem dX12_begin_19 : decode cX12_begin 19 = .ok (.iastore, 1) := by decide +kernel
theorem dX12_begin_20 : decode cX12_begin 20 = .ok (.aload_n 0, 1) := by decide +kernel
theorem dX12_begin_21 : decode cX12_begin 21 = .ok (.getfield 88, 3) := by decide +kernel
theorem dX12_begin_24 : decode cX12_begin 24 = .ok (.iload_n 1, 1) := by decide +kernel
theorem dX12_begin_25 : decode cX12_begin 25 = .ok (.iconst 0, 1) := by decide +kernel
theorem dX12_begin_26 : decode cX12_begin 26 = .ok (.iastore, 1) := by decide +kernel
theorem dX12_begin_27 : decode cX12_begin 27 = .ok (.aload_n 0, 1) := by decide +kernel
theorem dX12_begin_28 : decode cX12_begin 28 = .ok (.getfield 91, 3) := by decide +kernel
theorem dX12_begin_31 : decode cX12_begin 31 = .ok (.iload_n 1, 1) := by decide +kernel
theorem dX12_begin_32 : decode cX12_begin 32 = .ok (.iconst 0, 1) := by decide +kernel
theorem dX12_begin_33 : decode cX12_begin 33 = .ok (.iastore, 1) := by decide +kernel
theorem dX12_begin_34 : decode cX12_begin 34 = .ok (.aload_n 0, 1) := by decide +kernel
theorem dX12_begin_35 : decode cX12_begin 35 = .ok (.getfield 94, 3) := by decide +kernel
theorem dX12_begin_38 : decode cX12_begin 38 = .ok (.iload_n 1, 1) := by decide +kernel
theorem dX12_begin_39 : decode cX12_begin 39 = .ok (.iconst 0, 1) := by decide +kernel
theorem dX12_begin_40 : decode cX12_begin 40 = .ok (.iastore, 1) := by decide +kernel
theorem dX12_begin_41 : decode cX12_begin 41 = .ok (.aload_n 0, 1) := by decide +kernel
theorem dX12_begin_42 : decode cX12_begin 42 = .ok (.getfield 97, 3) := by decide +kernel
theorem dX12_begin_45 : decode cX12_begin 45 = .ok (.iload_n 1, 1) := by decide +kernel
theorem dX12_begin_46 : decode cX12_begin 46 = .ok (.iconst 0, 1) := by decide +kernel
theorem dX12_begin_47 : decode cX12_begin 47 = .ok (.bastore, 1) := by decide +kernel
theorem dX12_begin_48 : decode cX12_begin 48 = .ok (.aload_n 0, 1) := by decide +kernel
theorem dX12_begin_49 : decode cX12_begin 49 = .ok (.getfield 100, 3) := by decide +kernel
theorem dX12_begin_52 : decode cX12_begin 52 = .ok (.iload_n 1, 1) := by decide +kernel
theorem dX12_begin_53 : decode cX12_begin 53 = .ok (.aload_n 0, 1) := by decide +kernel
theorem dX12_begin_54 : decode cX12_begin 54 = .ok (.getfield 39, 3) := by decide +kernel
theorem dX12_begin_57 : decode cX12_begin 57 = .ok (.iload_n 1, 1) := by decide +kernel
theorem dX12_begin_58 : decode cX12_begin 58 = .ok (.iaload, 1) := by decide +kernel
theorem dX12_begin_59 : decode cX12_begin 59 = .ok (.iastore, 1) := by decide +kernel
theorem dX12_begin_60 : decode cX12_begin 60 = .ok (.iinc 1 1, 3) := by decide +kernel
theorem dX12_begin_63 : decode cX12_begin 63 = .ok (.goto (-61), 3) := by decide +kernel
theorem dX12_begin_66 : decode cX12_begin 66 = .ok (.aload_n 0, 1) := by decide +kernel
theorem dX12_begin_67 : decode cX12_begin 67 = .ok (.getfield 103, 3) := by decide +kernel
theorem dX12_begin_70 : decode cX12_begin 70 = .ok (.iconst 0, 1) := by decide +kernel
theorem dX12_begin_71 : decode cX12_begin 71 = .ok (.iconst 0, 1) := by decide +kernel
theorem dX12_begin_72 : decode cX12_begin 72 = .ok (.iastore, 1) := by decide +kernel
theorem dX12_begin_73 : decode cX12_begin 73 = .ok (.aload_n 0, 1) := by decide +kernel
theorem dX12_begin_74 : decode cX12_begin 74 = .ok (.getfield 106, 3) := by decide +kernel
theorem dX12_begin_77 : decode cX12_begin 77 = .ok (.iconst 0, 1) := by decide +kernel
theorem dX12_begin_78 : decode cX12_begin 78 = .ok (.iconst 0, 1) := by decide +kernel
theorem dX12_begin_79 : decode cX12_begin 79 = .ok (.iastore, 1) := by decide +kernel
theorem dX12_begin_80 : decode cX12_begin 80 = .ok (.aload_n 0, 1) := by decide +kernel
theorem dX12_begin_81 : decode cX12_begin 81 = .ok (.aload_n 0, 1) := by decide +kernel
theorem dX12_begin_82 : decode cX12_begin 82 = .ok (.getfield 24, 3) := by decide +kernel
theorem dX12_begin_85 : decode cX12_begin 85 = .ok (.iconst 1, 1) := by decide +kernel
theorem dX12_begin_86 : decode cX12_begin 86 = .ok (.iaload, 1) := by decide +kernel
theorem dX12_begin_87 : decode cX12_begin 87 = .ok (.i2l, 1) := by decide +kernel
theorem dX12_begin_88 : decode cX12_begin 88 = .ok (.putfield 343, 3) := by decide +kernel
theorem dX12_begin_91 : decode cX12_begin 91 = .ok (.aload_n 0, 1) := by decide +kernel
theorem dX12_begin_92 : decode cX12_begin 92 = .ok (.invokevirtual 347, 3) := by decide +kernel
theorem dX12_begin_95 : decode cX12_begin 95 = .ok (.aload_n 0, 1) := by decide +kernel
theorem dX12_begin_96 : decode cX12_begin 96 = .ok (.iconst 0, 1) := by decide +kernel
theorem dX12_begin_97 : decode cX12_begin 97 = .ok (.putfield 350, 3) := by decide +kernel
theorem dX12_begin_100 : decode cX12_begin 100 = .ok (.aload_n 0, 1) := by decide +kernel
theorem dX12_begin_101 : decode cX12_begin 101 = .ok (.iconst (-1), 1) := by decide +kernel
theorem dX12_begin_102 : decode cX12_begin 102 = .ok (.putfield 115, 3) := by decide +kernel
theorem dX12_begin_105 : decode cX12_begin 105 = .ok (.aload_n 0, 1) := by decide +kernel
theorem dX12_begin_106 : decode cX12_begin 106 = .ok (.iconst 0, 1) := by decide +kernel
theorem dX12_begin_107 : decode cX12_begin 107 = .ok (.putfield 353, 3) := by decide +kernel
theorem dX12_begin_110 : decode cX12_begin 110 = .ok (.aload_n 0, 1) := by decide +kernel
theorem dX12_begin_111 : decode cX12_begin 111 = .ok (.iconst 0, 1) := by decide +kernel
theorem dX12_begin_112 : decode cX12_begin 112 = .ok (.putfield 356, 3) := by decide +kernel
theorem dX12_begin_115 : decode cX12_begin 115 = .ok (.return_, 1) := by decide +kernel
theorem dX12_plainTried_0 : decode cX12_plainTried 0 = .ok (.aload_n 0, 1) := by decide +kernel
theorem dX12_plainTried_1 : decode cX12_plainTried 1 = .ok (.iconst 0, 1) := by decide +kernel
theorem dX12_plainTried_2 : decode cX12_plainTried 2 = .ok (.putfield 359, 3) := by decide +kernel
theorem dX12_plainTried_5 : decode cX12_plainTried 5 = .ok (.aload_n 0, 1) := by decide +kernel
theorem dX12_plainTried_6 : decode cX12_plainTried 6 = .ok (.iconst 0, 1) := by decide +kernel
theorem dX12_plainTried_7 : decode cX12_plainTried 7 = .ok (.putfield 362, 3) := by decide +kernel
theorem dX12_plainTried_10 : decode cX12_plainTried 10 = .ok (.aload_n 0, 1) := by decide +kernel
theorem dX12_plainTried_11 : decode cX12_plainTried 11 = .ok (.iconst 0, 1) := by decide +kernel
theorem dX12_plainTried_12 : decode cX12_plainTried 12 = .ok (.putfield 365, 3) := by decide +kernel
theorem dX12_plainTried_15 : decode cX12_plainTried 15 = .ok (.aload_n 0, 1) := by decide +kernel
theorem dX12_plainTried_16 : decode cX12_plainTried 16 = .ok (.iconst 0, 1) := by decide +kernel
theorem dX12_plainTried_17 : decode cX12_plainTried 17 = .ok (.putfield 368, 3) := by decide +kernel
theorem dX12_plainTried_20 : decode cX12_plainTried 20 = .ok (.aload_n 0, 1) := by decide +kernel
theorem dX12_plainTried_21 : decode cX12_plainTried 21 = .ok (.iconst (-1), 1) := by decide +kernel
theorem dX12_plainTried_22 : decode cX12_plainTried 22 = .ok (.putfield 371, 3) := by decide +kernel
theorem dX12_plainTried_25 : decode cX12_plainTried 25 = .ok (.return_, 1) := by decide +kernel
theorem dX12_layTried_0 : decode cX12_layTried 0 = .ok (.iconst 0, 1) := by decide +kernel
theorem dX12_layTried_1 : decode cX12_layTried 1 = .ok (.istore_n 1, 1) := by decide +kernel
theorem dX12_layTried_2 : decode cX12_layTried 2 = .ok (.iload_n 1, 1) := by decide +kernel
theorem dX12_layTried_3 : decode cX12_layTried 3 = .ok (.bipush 6, 2) := by decide +kernel
theorem dX12_layTried_5 : decode cX12_layTried 5 = .ok (.if_icmp .ge 99, 3) := by decide +kernel
theorem dX12_layTried_8 : decode cX12_layTried 8 = .ok (.aload_n 0, 1) := by decide +kernel
theorem dX12_layTried_9 : decode cX12_layTried 9 = .ok (.getfield 85, 3) := by decide +kernel
theorem dX12_layTried_12 : decode cX12_layTried 12 = .ok (.bipush 6, 2) := by decide +kernel
theorem dX12_layTried_14 : decode cX12_layTried 14 = .ok (.iload_n 1, 1) := by decide +kernel
theorem dX12_layTried_15 : decode cX12_layTried 15 = .ok (.iadd, 1) := by decide +kernel
theorem dX12_layTried_16 : decode cX12_layTried 16 = .ok (.aload_n 0, 1) := by decide +kernel
theorem dX12_layTried_17 : decode cX12_layTried 17 = .ok (.getfield 85, 3) := by decide +kernel
theorem dX12_layTried_20 : decode cX12_layTried 20 = .ok (.iload_n 1, 1) := by decide +kernel
theorem dX12_layTried_21 : decode cX12_layTried 21 = .ok (.iaload, 1) := by decide +kernel
theorem dX12_layTried_22 : decode cX12_layTried 22 = .ok (.iastore, 1) := by decide +kernel
theorem dX12_layTried_23 : decode cX12_layTried 23 = .ok (.aload_n 0, 1) := by decide +kernel
theorem dX12_layTried_24 : decode cX12_layTried 24 = .ok (.getfield 88, 3) := by decide +kernel
theorem dX12_layTried_27 : decode cX12_layTried 27 = .ok (.bipush 6, 2) := by decide +kernel
theorem dX12_layTried_29 : decode cX12_layTried 29 = .ok (.iload_n 1, 1) := by decide +kernel
theorem dX12_layTried_30 : decode cX12_layTried 30 = .ok (.iadd, 1) := by decide +kernel
theorem dX12_layTried_31 : decode cX12_layTried 31 = .ok (.aload_n 0, 1) := by decide +kernel
theorem dX12_layTried_32 : decode cX12_layTried 32 = .ok (.getfield 88, 3) := by decide +kernel
theorem dX12_layTried_35 : decode cX12_layTried 35 = .ok (.iload_n 1, 1) := by decide +kernel
theorem dX12_layTried_36 : decode cX12_layTried 36 = .ok (.iaload, 1) := by decide +kernel
theorem dX12_layTried_37 : decode cX12_layTried 37 = .ok (.iastore, 1) := by decide +kernel
theorem dX12_layTried_38 : decode cX12_layTried 38 = .ok (.aload_n 0, 1) := by decide +kernel
theorem dX12_layTried_39 : decode cX12_layTried 39 = .ok (.getfield 91, 3) := by decide +kernel
theorem dX12_layTried_42 : decode cX12_layTried 42 = .ok (.bipush 6, 2) := by decide +kernel
theorem dX12_layTried_44 : decode cX12_layTried 44 = .ok (.iload_n 1, 1) := by decide +kernel
theorem dX12_layTried_45 : decode cX12_layTried 45 = .ok (.iadd, 1) := by decide +kernel
theorem dX12_layTried_46 : decode cX12_layTried 46 = .ok (.aload_n 0, 1) := by decide +kernel
theorem dX12_layTried_47 : decode cX12_layTried 47 = .ok (.getfield 91, 3) := by decide +kernel
theorem dX12_layTried_50 : decode cX12_layTried 50 = .ok (.iload_n 1, 1) := by decide +kernel
theorem dX12_layTried_51 : decode cX12_layTried 51 = .ok (.iaload, 1) := by decide +kernel
theorem dX12_layTried_52 : decode cX12_layTried 52 = .ok (.iastore, 1) := by decide +kernel
theorem dX12_layTried_53 : decode cX12_layTried 53 = .ok (.aload_n 0, 1) := by decide +kernel
theorem dX12_layTried_54 : decode cX12_layTried 54 = .ok (.getfield 94, 3) := by decide +kernel
theorem dX12_layTried_57 : decode cX12_layTried 57 = .ok (.bipush 6, 2) := by decide +kernel
theorem dX12_layTried_59 : decode cX12_layTried 59 = .ok (.iload_n 1, 1) := by decide +kernel
theorem dX12_layTried_60 : decode cX12_layTried 60 = .ok (.iadd, 1) := by decide +kernel
theorem dX12_layTried_61 : decode cX12_layTried 61 = .ok (.aload_n 0, 1) := by decide +kernel
theorem dX12_layTried_62 : decode cX12_layTried 62 = .ok (.getfield 94, 3) := by decide +kernel
theorem dX12_layTried_65 : decode cX12_layTried 65 = .ok (.iload_n 1, 1) := by decide +kernel
theorem dX12_layTried_66 : decode cX12_layTried 66 = .ok (.iaload, 1) := by decide +kernel
theorem dX12_layTried_67 : decode cX12_layTried 67 = .ok (.iastore, 1) := by decide +kernel
theorem dX12_layTried_68 : decode cX12_layTried 68 = .ok (.aload_n 0, 1) := by decide +kernel
theorem dX12_layTried_69 : decode cX12_layTried 69 = .ok (.getfield 97, 3) := by decide +kernel
theorem dX12_layTried_72 : decode cX12_layTried 72 = .ok (.bipush 6, 2) := by decide +kernel
theorem dX12_layTried_74 : decode cX12_layTried 74 = .ok (.iload_n 1, 1) := by decide +kernel
theorem dX12_layTried_75 : decode cX12_layTried 75 = .ok (.iadd, 1) := by decide +kernel
theorem dX12_layTried_76 : decode cX12_layTried 76 = .ok (.aload_n 0, 1) := by decide +kernel
theorem dX12_layTried_77 : decode cX12_layTried 77 = .ok (.getfield 97, 3) := by decide +kernel
theorem dX12_layTried_80 : decode cX12_layTried 80 = .ok (.iload_n 1, 1) := by decide +kernel
theorem dX12_layTried_81 : decode cX12_layTried 81 = .ok (.baload, 1) := by decide +kernel
theorem dX12_layTried_82 : decode cX12_layTried 82 = .ok (.bastore, 1) := by decide +kernel
theorem dX12_layTried_83 : decode cX12_layTried 83 = .ok (.aload_n 0, 1) := by decide +kernel
theorem dX12_layTried_84 : decode cX12_layTried 84 = .ok (.getfield 100, 3) := by decide +kernel
theorem dX12_layTried_87 : decode cX12_layTried 87 = .ok (.bipush 6, 2) := by decide +kernel
theorem dX12_layTried_89 : decode cX12_layTried 89 = .ok (.iload_n 1, 1) := by decide +kernel
theorem dX12_layTried_90 : decode cX12_layTried 90 = .ok (.iadd, 1) := by decide +kernel
theorem dX12_layTried_91 : decode cX12_layTried 91 = .ok (.aload_n 0, 1) := by decide +kernel
theorem dX12_layTried_92 : decode cX12_layTried 92 = .ok (.getfield 100, 3) := by decide +kernel
theorem dX12_layTried_95 : decode cX12_layTried 95 = .ok (.iload_n 1, 1) := by decide +kernel
theorem dX12_layTried_96 : decode cX12_layTried 96 = .ok (.iaload, 1) := by decide +kernel
theorem dX12_layTried_97 : decode cX12_layTried 97 = .ok (.iastore, 1) := by decide +kernel
theorem dX12_layTried_98 : decode cX12_layTried 98 = .ok (.iinc 1 1, 3) := by decide +kernel
theorem dX12_layTried_101 : decode cX12_layTried 101 = .ok (.goto (-99), 3) := by decide +kernel
theorem dX12_layTried_104 : decode cX12_layTried 104 = .ok (.aload_n 0, 1) := by decide +kernel
theorem dX12_layTried_105 : decode cX12_layTried 105 = .ok (.getfield 103, 3) := by decide +kernel
theorem dX12_layTried_108 : decode cX12_layTried 108 = .ok (.iconst 1, 1) := by decide +kernel
theorem dX12_layTried_109 : decode cX12_layTried 109 = .ok (.aload_n 0, 1) := by decide +kernel
theorem dX12_layTried_110 : decode cX12_layTried 110 = .ok (.getfield 103, 3) := by decide +kernel
theorem dX12_layTried_113 : decode cX12_layTried 113 = .ok (.iconst 0, 1) := by decide +kernel
theorem dX12_layTried_114 : decode cX12_layTried 114 = .ok (.iaload, 1) := by decide +kernel
theorem dX12_layTried_115 : decode cX12_layTried 115 = .ok (.iastore, 1) := by decide +kernel
theorem dX12_layTried_116 : decode cX12_layTried 116 = .ok (.aload_n 0, 1) := by decide +kernel
theorem dX12_layTried_117 : decode cX12_layTried 117 = .ok (.getfield 106, 3) := by decide +kernel
theorem dX12_layTried_120 : decode cX12_layTried 120 = .ok (.iconst 1, 1) := by decide +kernel
theorem dX12_layTried_121 : decode cX12_layTried 121 = .ok (.aload_n 0, 1) := by decide +kernel
theorem dX12_layTried_122 : decode cX12_layTried 122 = .ok (.getfield 106, 3) := by decide +kernel
theorem dX12_layTried_125 : decode cX12_layTried 125 = .ok (.iconst 0, 1) := by decide +kernel
theorem dX12_layTried_126 : decode cX12_layTried 126 = .ok (.iaload, 1) := by decide +kernel
theorem dX12_layTried_127 : decode cX12_layTried 127 = .ok (.iastore, 1) := by decide +kernel
theorem dX12_layTried_128 : decode cX12_layTried 128 = .ok (.aload_n 0, 1) := by decide +kernel
theorem dX12_layTried_129 : decode cX12_layTried 129 = .ok (.invokevirtual 347, 3) := by decide +kernel
theorem dX12_layTried_132 : decode cX12_layTried 132 = .ok (.return_, 1) := by decide +kernel
theorem dX12_isBox_0 : decode cX12_isBox 0 = .ok (.iload_n 1, 1) := by decide +kernel
theorem dX12_isBox_1 : decode cX12_isBox 1 = .ok (.ifCond .lt 15, 3) := by decide +kernel
theorem dX12_isBox_4 : decode cX12_isBox 4 = .ok (.iload_n 1, 1) := by decide +kernel
theorem dX12_isBox_5 : decode cX12_isBox 5 = .ok (.aload_n 0, 1) := by decide +kernel
theorem dX12_isBox_6 : decode cX12_isBox 6 = .ok (.getfield 219, 3) := by decide +kernel
theorem dX12_isBox_9 : decode cX12_isBox 9 = .ok (.if_icmp .ge 7, 3) := by decide +kernel
theorem dX12_isBox_12 : decode cX12_isBox 12 = .ok (.iconst 1, 1) := by decide +kernel
theorem dX12_isBox_13 : decode cX12_isBox 13 = .ok (.goto 4, 3) := by decide +kernel
theorem dX12_isBox_16 : decode cX12_isBox 16 = .ok (.iconst 0, 1) := by decide +kernel
theorem dX12_isBox_17 : decode cX12_isBox 17 = .ok (.ireturn, 1) := by decide +kernel
theorem dX12_isGuest_0 : decode cX12_isGuest 0 = .ok (.iload_n 1, 1) := by decide +kernel
theorem dX12_isGuest_1 : decode cX12_isGuest 1 = .ok (.ifCond .lt 15, 3) := by decide +kernel
theorem dX12_isGuest_4 : decode cX12_isGuest 4 = .ok (.iload_n 1, 1) := by decide +kernel
theorem dX12_isGuest_5 : decode cX12_isGuest 5 = .ok (.aload_n 0, 1) := by decide +kernel
theorem dX12_isGuest_6 : decode cX12_isGuest 6 = .ok (.getfield 225, 3) := by decide +kernel
theorem dX12_isGuest_9 : decode cX12_isGuest 9 = .ok (.if_icmp .ge 7, 3) := by decide +kernel
theorem dX12_isGuest_12 : decode cX12_isGuest 12 = .ok (.iconst 1, 1) := by decide +kernel
theorem dX12_isGuest_13 : decode cX12_isGuest 13 = .ok (.goto 4, 3) := by decide +kernel
theorem dX12_isGuest_16 : decode cX12_isGuest 16 = .ok (.iconst 0, 1) := by decide +kernel
theorem dX12_isGuest_17 : decode cX12_isGuest 17 = .ok (.ireturn, 1) := by decide +kernel
theorem dX12_isPlace_0 : decode cX12_isPlace 0 = .ok (.iload_n 0, 1) := by decide +kernel
theorem dX12_isPlace_1 : decode cX12_isPlace 1 = .ok (.ifCond .lt 13, 3) := by decide +kernel
theorem dX12_isPlace_4 : decode cX12_isPlace 4 = .ok (.iload_n 0, 1) := by decide +kernel
theorem dX12_isPlace_5 : decode cX12_isPlace 5 = .ok (.bipush 8, 2) := by decide +kernel
theorem dX12_isPlace_7 : decode cX12_isPlace 7 = .ok (.if_icmp .ge 7, 3) := by decide +kernel
theorem dX12_isPlace_10 : decode cX12_isPlace 10 = .ok (.iconst 1, 1) := by decide +kernel
theorem dX12_isPlace_11 : decode cX12_isPlace 11 = .ok (.goto 4, 3) := by decide +kernel
theorem dX12_isPlace_14 : decode cX12_isPlace 14 = .ok (.iconst 0, 1) := by decide +kernel
theorem dX12_isPlace_15 : decode cX12_isPlace 15 = .ok (.ireturn, 1) := by decide +kernel
theorem dX12_isTooth_0 : decode cX12_isTooth 0 = .ok (.iload_n 0, 1) := by decide +kernel
theorem dX12_isTooth_1 : decode cX12_isTooth 1 = .ok (.iconst 1, 1) := by decide +kernel
theorem dX12_isTooth_2 : decode cX12_isTooth 2 = .ok (.if_icmp .lt 13, 3) := by decide +kernel
theorem dX12_isTooth_5 : decode cX12_isTooth 5 = .ok (.iload_n 0, 1) := by decide +kernel
theorem dX12_isTooth_6 : decode cX12_isTooth 6 = .ok (.bipush 9, 2) := by decide +kernel
theorem dX12_isTooth_8 : decode cX12_isTooth 8 = .ok (.if_icmp .gt 7, 3) := by decide +kernel
theorem dX12_isTooth_11 : decode cX12_isTooth 11 = .ok (.iconst 1, 1) := by decide +kernel
theorem dX12_isTooth_12 : decode cX12_isTooth 12 = .ok (.goto 4, 3) := by decide +kernel
theorem dX12_isTooth_15 : decode cX12_isTooth 15 = .ok (.iconst 0, 1) := by decide +kernel
theorem dX12_isTooth_16 : decode cX12_isTooth 16 = .ok (.ireturn, 1) := by decide +kernel
theorem dX12_heardBy_0 : decode cX12_heardBy 0 = .ok (.iload_n 0, 1) := by decide +kernel
theorem dX12_heardBy_1 : decode cX12_heardBy 1 = .ok (.ifCond .eq 11, 3) := by decide +kernel
theorem dX12_heardBy_4 : decode cX12_heardBy 4 = .ok (.iload_n 2, 1) := by decide +kernel
theorem dX12_heardBy_5 : decode cX12_heardBy 5 = .ok (.iload_n 0, 1) := by decide +kernel
theorem dX12_heardBy_6 : decode cX12_heardBy 6 = .ok (.invokestatic 250, 3) := by decide +kernel
theorem dX12_heardBy_9 : decode cX12_heardBy 9 = .ok (.ifCond .eq 5, 3) := by decide +kernel
theorem dX12_heardBy_12 : decode cX12_heardBy 12 = .ok (.iconst 0, 1) := by decide +kernel
theorem dX12_heardBy_13 : decode cX12_heardBy 13 = .ok (.ireturn, 1) := by decide +kernel
theorem dX12_heardBy_14 : decode cX12_heardBy 14 = .ok (.iload_n 0, 1) := by decide +kernel
theorem dX12_heardBy_15 : decode cX12_heardBy 15 = .ok (.iload_n 1, 1) := by decide +kernel
theorem dX12_heardBy_16 : decode cX12_heardBy 16 = .ok (.iconst 5, 1) := by decide +kernel
theorem dX12_heardBy_17 : decode cX12_heardBy 17 = .ok (.idiv, 1) := by decide +kernel
theorem dX12_heardBy_18 : decode cX12_heardBy 18 = .ok (.iadd, 1) := by decide +kernel
theorem dX12_heardBy_19 : decode cX12_heardBy 19 = .ok (.istore_n 3, 1) := by decide +kernel
theorem dX12_heardBy_20 : decode cX12_heardBy 20 = .ok (.iload_n 3, 1) := by decide +kernel
theorem dX12_heardBy_21 : decode cX12_heardBy 21 = .ok (.bipush 9, 2) := by decide +kernel
theorem dX12_heardBy_23 : decode cX12_heardBy 23 = .ok (.if_icmp .le 8, 3) := by decide +kernel
theorem dX12_heardBy_26 : decode cX12_heardBy 26 = .ok (.bipush 9, 2) := by decide +kernel
theorem dX12_heardBy_28 : decode cX12_heardBy 28 = .ok (.goto 4, 3) := by decide +kernel
theorem dX12_heardBy_31 : decode cX12_heardBy 31 = .ok (.iload_n 3, 1) := by decide +kernel
theorem dX12_heardBy_32 : decode cX12_heardBy 32 = .ok (.ireturn, 1) := by decide +kernel
theorem dX12_lacksOf_0 : decode cX12_lacksOf 0 = .ok (.aload_n 0, 1) := by decide +kernel
theorem dX12_lacksOf_1 : decode cX12_lacksOf 1 = .ok (.getfield 368, 3) := by decide +kernel
theorem dX12_lacksOf_4 : decode cX12_lacksOf 4 = .ok (.ifCond .eq 7, 3) := by decide +kernel
theorem dX12_lacksOf_7 : decode cX12_lacksOf 7 = .ok (.iconst 0, 1) := by decide +kernel
theorem dX12_lacksOf_8 : decode cX12_lacksOf 8 = .ok (.goto 14, 3) := by decide +kernel
theorem dX12_lacksOf_11 : decode cX12_lacksOf 11 = .ok (.aload_n 0, 1) := by decide +kernel
theorem dX12_lacksOf_12 : decode cX12_lacksOf 12 = .ok (.getfield 100, 3) := by decide +kernel
theorem dX12_lacksOf_15 : decode cX12_lacksOf 15 = .ok (.bipush 6, 2) := by decide +kernel
theorem dX12_lacksOf_17 : decode cX12_lacksOf 17 = .ok (.iload_n 1, 1) := by decide +kernel
theorem dX12_lacksOf_18 : decode cX12_lacksOf 18 = .ok (.imul, 1) := by decide +kernel
theorem dX12_lacksOf_19 : decode cX12_lacksOf 19 = .ok (.iload_n 2, 1) := by decide +kernel
theorem dX12_lacksOf_20 : decode cX12_lacksOf 20 = .ok (.iadd, 1) := by decide +kernel
theorem dX12_lacksOf_21 : decode cX12_lacksOf 21 = .ok (.iaload, 1) := by decide +kernel
theorem dX12_lacksOf_22 : decode cX12_lacksOf 22 = .ok (.ireturn, 1) := by decide +kernel
theorem dX12_heardIn_0 : decode cX12_heardIn 0 = .ok (.aload_n 0, 1) := by decide +kernel
theorem dX12_heardIn_1 : decode cX12_heardIn 1 = .ok (.getfield 36, 3) := by decide +kernel
theorem dX12_heardIn_4 : decode cX12_heardIn 4 = .ok (.bipush 8, 2) := by decide +kernel
theorem dX12_heardIn_6 : decode cX12_heardIn 6 = .ok (.iload_n 2, 1) := by decide +kernel
theorem dX12_heardIn_7 : decode cX12_heardIn 7 = .ok (.imul, 1) := by decide +kernel
theorem dX12_heardIn_8 : decode cX12_heardIn 8 = .ok (.iload_n 3, 1) := by decide +kernel
theorem dX12_heardIn_9 : decode cX12_heardIn 9 = .ok (.iadd, 1) := by decide +kernel
theorem dX12_heardIn_10 : decode cX12_heardIn 10 = .ok (.iaload, 1) := by decide +kernel
theorem dX12_heardIn_11 : decode cX12_heardIn 11 = .ok (.aload_n 0, 1) := by decide +kernel
theorem dX12_heardIn_12 : decode cX12_heardIn 12 = .ok (.getfield 88, 3) := by decide +kernel
theorem dX12_heardIn_15 : decode cX12_heardIn 15 = .ok (.bipush 6, 2) := by decide +kernel
theorem dX12_heardIn_17 : decode cX12_heardIn 17 = .ok (.iload_n 1, 1) := by decide +kernel
theorem dX12_heardIn_18 : decode cX12_heardIn 18 = .ok (.imul, 1) := by decide +kernel
theorem dX12_heardIn_19 : decode cX12_heardIn 19 = .ok (.iload_n 2, 1) := by decide +kernel
theorem dX12_heardIn_20 : decode cX12_heardIn 20 = .ok (.iadd, 1) := by decide +kernel
theorem dX12_heardIn_21 : decode cX12_heardIn 21 = .ok (.iaload, 1) := by decide +kernel
theorem dX12_heardIn_22 : decode cX12_heardIn 22 = .ok (.aload_n 0, 1) := by decide +kernel
theorem dX12_heardIn_23 : decode cX12_heardIn 23 = .ok (.iload_n 1, 1) := by decide +kernel
theorem dX12_heardIn_24 : decode cX12_heardIn 24 = .ok (.iload_n 2, 1) := by decide +kernel
theorem dX12_heardIn_25 : decode cX12_heardIn 25 = .ok (.invokevirtual 374, 3) := by decide +kernel
theorem dX12_heardIn_28 : decode cX12_heardIn 28 = .ok (.invokestatic 377, 3) := by decide +kernel
theorem dX12_heardIn_31 : decode cX12_heardIn 31 = .ok (.ireturn, 1) := by decide +kernel
theorem dX12_heardMany_0 : decode cX12_heardMany 0 = .ok (.iconst 0, 1) := by decide +kernel
theorem dX12_heardMany_1 : decode cX12_heardMany 1 = .ok (.istore_n 3, 1) := by decide +kernel
theorem dX12_heardMany_2 : decode cX12_heardMany 2 = .ok (.iconst 0, 1) := by decide +kernel
theorem dX12_heardMany_3 : decode cX12_heardMany 3 = .ok (.istore 4, 2) := by decide +kernel
theorem dX12_heardMany_5 : decode cX12_heardMany 5 = .ok (.iload 4, 2) := by decide +kernel
theorem dX12_heardMany_7 : decode cX12_heardMany 7 = .ok (.bipush 8, 2) := by decide +kernel
theorem dX12_heardMany_9 : decode cX12_heardMany 9 = .ok (.if_icmp .ge 28, 3) := by decide +kernel
theorem dX12_heardMany_12 : decode cX12_heardMany 12 = .ok (.iload_n 3, 1) := by decide +kernel
theorem dX12_heardMany_13 : decode cX12_heardMany 13 = .ok (.aload_n 0, 1) := by decide +kernel
theorem dX12_heardMany_14 : decode cX12_heardMany 14 = .ok (.iload_n 1, 1) := by decide +kernel
theorem dX12_heardMany_15 : decode cX12_heardMany 15 = .ok (.iload_n 2, 1) := by decide +kernel
theorem dX12_heardMany_16 : decode cX12_heardMany 16 = .ok (.iload 4, 2) := by decide +kernel
theorem dX12_heardMany_18 : decode cX12_heardMany 18 = .ok (.invokevirtual 381, 3) := by decide +kernel
theorem dX12_heardMany_21 : decode cX12_heardMany 21 = .ok (.ifCond .le 7, 3) := by decide +kernel
theorem dX12_heardMany_24 : decode cX12_heardMany 24 = .ok (.iconst 1, 1) := by decide +kernel
theorem dX12_heardMany_25 : decode cX12_heardMany 25 = .ok (.goto 4, 3) := by decide +kernel
theorem dX12_heardMany_28 : decode cX12_heardMany 28 = .ok (.iconst 0, 1) := by decide +kernel
theorem dX12_heardMany_29 : decode cX12_heardMany 29 = .ok (.iadd, 1) := by decide +kernel
theorem dX12_heardMany_30 : decode cX12_heardMany 30 = .ok (.istore_n 3, 1) := by decide +kernel
theorem dX12_heardMany_31 : decode cX12_heardMany 31 = .ok (.iinc 4 1, 3) := by decide +kernel
theorem dX12_heardMany_34 : decode cX12_heardMany 34 = .ok (.goto (-29), 3) := by decide +kernel
theorem dX12_heardMany_37 : decode cX12_heardMany 37 = .ok (.iload_n 3, 1) := by decide +kernel
theorem dX12_heardMany_38 : decode cX12_heardMany 38 = .ok (.ireturn, 1) := by decide +kernel
theorem dX12_manyOf_0 : decode cX12_manyOf 0 = .ok (.iconst 0, 1) := by decide +kernel
theorem dX12_manyOf_1 : decode cX12_manyOf 1 = .ok (.istore_n 1, 1) := by decide +kernel
theorem dX12_manyOf_2 : decode cX12_manyOf 2 = .ok (.iconst 0, 1) := by decide +kernel
theorem dX12_manyOf_3 : decode cX12_manyOf 3 = .ok (.istore_n 2, 1) := by decide +kernel
theorem dX12_manyOf_4 : decode cX12_manyOf 4 = .ok (.iload_n 2, 1) := by decide +kernel
theorem dX12_manyOf_5 : decode cX12_manyOf 5 = .ok (.bipush 10, 2) := by decide +kernel
theorem dX12_manyOf_7 : decode cX12_manyOf 7 = .ok (.if_icmp .ge 17, 3) := by decide +kernel
theorem dX12_manyOf_10 : decode cX12_manyOf 10 = .ok (.iload_n 1, 1) := by decide +kernel
theorem dX12_manyOf_11 : decode cX12_manyOf 11 = .ok (.iload_n 0, 1) := by decide +kernel
theorem dX12_manyOf_12 : decode cX12_manyOf 12 = .ok (.iload_n 2, 1) := by decide +kernel
theorem dX12_manyOf_13 : decode cX12_manyOf 13 = .ok (.ishr, 1) := by decide +kernel
theorem dX12_manyOf_14 : decode cX12_manyOf 14 = .ok (.iconst 1, 1) := by decide +kernel
theorem dX12_manyOf_15 : decode cX12_manyOf 15 = .ok (.iand, 1) := by decide +kernel
theorem dX12_manyOf_16 : decode cX12_manyOf 16 = .ok (.iadd, 1) := by decide +kernel
theorem dX12_manyOf_17 : decode cX12_manyOf 17 = .ok (.istore_n 1, 1) := by decide +kernel
theorem dX12_manyOf_18 : decode cX12_manyOf 18 = .ok (.iinc 2 1, 3) := by decide +kernel
theorem dX12_manyOf_21 : decode cX12_manyOf 21 = .ok (.goto (-17), 3) := by decide +kernel
theorem dX12_manyOf_24 : decode cX12_manyOf 24 = .ok (.iload_n 1, 1) := by decide +kernel
theorem dX12_manyOf_25 : decode cX12_manyOf 25 = .ok (.ireturn, 1) := by decide +kernel
theorem dX12_pinsOf_0 : decode cX12_pinsOf 0 = .ok (.iconst 0, 1) := by decide +kernel
theorem dX12_pinsOf_1 : decode cX12_pinsOf 1 = .ok (.istore_n 2, 1) := by decide +kernel
theorem dX12_pinsOf_2 : decode cX12_pinsOf 2 = .ok (.iconst 0, 1) := by decide +kernel
theorem dX12_pinsOf_3 : decode cX12_pinsOf 3 = .ok (.istore_n 3, 1) := by decide +kernel
theorem dX12_pinsOf_4 : decode cX12_pinsOf 4 = .ok (.iload_n 3, 1) := by decide +kernel
theorem dX12_pinsOf_5 : decode cX12_pinsOf 5 = .ok (.bipush 8, 2) := by decide +kernel
theorem dX12_pinsOf_7 : decode cX12_pinsOf 7 = .ok (.if_icmp .ge 31, 3) := by decide +kernel
theorem dX12_pinsOf_10 : decode cX12_pinsOf 10 = .ok (.iload_n 2, 1) := by decide +kernel
theorem dX12_pinsOf_11 : decode cX12_pinsOf 11 = .ok (.aload_n 0, 1) := by decide +kernel
theorem dX12_pinsOf_12 : decode cX12_pinsOf 12 = .ok (.getfield 36, 3) := by decide +kernel
theorem dX12_pinsOf_15 : decode cX12_pinsOf 15 = .ok (.bipush 8, 2) := by decide +kernel
theorem dX12_pinsOf_17 : decode cX12_pinsOf 17 = .ok (.iload_n 1, 1) := by decide +kernel
theorem dX12_pinsOf_18 : decode cX12_pinsOf 18 = .ok (.imul, 1) := by decide +kernel
theorem dX12_pinsOf_19 : decode cX12_pinsOf 19 = .ok (.iload_n 3, 1) := by decide +kernel
theorem dX12_pinsOf_20 : decode cX12_pinsOf 20 = .ok (.iadd, 1) := by decide +kernel
theorem dX12_pinsOf_21 : decode cX12_pinsOf 21 = .ok (.iaload, 1) := by decide +kernel
theorem dX12_pinsOf_22 : decode cX12_pinsOf 22 = .ok (.ifCond .le 7, 3) := by decide +kernel
theorem dX12_pinsOf_25 : decode cX12_pinsOf 25 = .ok (.iconst 1, 1) := by decide +kernel
theorem dX12_pinsOf_26 : decode cX12_pinsOf 26 = .ok (.goto 4, 3) := by decide +kernel
theorem dX12_pinsOf_29 : decode cX12_pinsOf 29 = .ok (.iconst 0, 1) := by decide +kernel
theorem dX12_pinsOf_30 : decode cX12_pinsOf 30 = .ok (.iadd, 1) := by decide +kernel
theorem dX12_pinsOf_31 : decode cX12_pinsOf 31 = .ok (.istore_n 2, 1) := by decide +kernel
theorem dX12_pinsOf_32 : decode cX12_pinsOf 32 = .ok (.iinc 3 1, 3) := by decide +kernel
theorem dX12_pinsOf_35 : decode cX12_pinsOf 35 = .ok (.goto (-31), 3) := by decide +kernel
theorem dX12_pinsOf_38 : decode cX12_pinsOf 38 = .ok (.iload_n 2, 1) := by decide +kernel
theorem dX12_pinsOf_39 : decode cX12_pinsOf 39 = .ok (.ireturn, 1) := by decide +kernel
theorem dX12_layNames_0 : decode cX12_layNames 0 = .ok (.aload_n 0, 1) := by decide +kernel
theorem dX12_layNames_1 : decode cX12_layNames 1 = .ok (.getfield 78, 3) := by decide +kernel
theorem dX12_layNames_4 : decode cX12_layNames 4 = .ok (.iconst 0, 1) := by decide +kernel
theorem dX12_layNames_5 : decode cX12_layNames 5 = .ok (.aload_n 0, 1) := by decide +kernel
theorem dX12_layNames_6 : decode cX12_layNames 6 = .ok (.getfield 85, 3) := by decide +kernel
theorem dX12_layNames_9 : decode cX12_layNames 9 = .ok (.bipush 6, 2) := by decide +kernel
theorem dX12_layNames_11 : decode cX12_layNames 11 = .ok (.iload_n 1, 1) := by decide +kernel
theorem dX12_layNames_12 : decode cX12_layNames 12 = .ok (.imul, 1) := by decide +kernel
theorem dX12_layNames_13 : decode cX12_layNames 13 = .ok (.iload_n 2, 1) := by decide +kernel
theorem dX12_layNames_14 : decode cX12_layNames 14 = .ok (.iadd, 1) := by decide +kernel
theorem dX12_layNames_15 : decode cX12_layNames 15 = .ok (.iaload, 1) := by decide +kernel
theorem dX12_layNames_16 : decode cX12_layNames 16 = .ok (.i2l, 1) := by decide +kernel
theorem dX12_layNames_17 : decode cX12_layNames 17 = .ok (.lastore, 1) := by decide +kernel
theorem dX12_layNames_18 : decode cX12_layNames 18 = .ok (.aload_n 0, 1) := by decide +kernel
theorem dX12_layNames_19 : decode cX12_layNames 19 = .ok (.getfield 78, 3) := by decide +kernel
theorem dX12_layNames_22 : decode cX12_layNames 22 = .ok (.iconst 1, 1) := by decide +kernel
theorem dX12_layNames_23 : decode cX12_layNames 23 = .ok (.aload_n 0, 1) := by decide +kernel
theorem dX12_layNames_24 : decode cX12_layNames 24 = .ok (.getfield 33, 3) := by decide +kernel
theorem dX12_layNames_27 : decode cX12_layNames 27 = .ok (.iload_n 2, 1) := by decide +kernel
theorem dX12_layNames_28 : decode cX12_layNames 28 = .ok (.iaload, 1) := by decide +kernel
theorem dX12_layNames_29 : decode cX12_layNames 29 = .ok (.i2l, 1) := by decide +kernel
theorem dX12_layNames_30 : decode cX12_layNames 30 = .ok (.lastore, 1) := by decide +kernel
theorem dX12_layNames_31 : decode cX12_layNames 31 = .ok (.aload_n 0, 1) := by decide +kernel
theorem dX12_layNames_32 : decode cX12_layNames 32 = .ok (.getfield 78, 3) := by decide +kernel
theorem dX12_layNames_35 : decode cX12_layNames 35 = .ok (.iconst 2, 1) := by decide +kernel
theorem dX12_layNames_36 : decode cX12_layNames 36 = .ok (.aload_n 0, 1) := by decide +kernel
theorem dX12_layNames_37 : decode cX12_layNames 37 = .ok (.iload_n 2, 1) := by decide +kernel
theorem dX12_layNames_38 : decode cX12_layNames 38 = .ok (.invokevirtual 384, 3) := by decide +kernel
theorem dX12_layNames_41 : decode cX12_layNames 41 = .ok (.i2l, 1) := by decide +kernel
theorem dX12_layNames_42 : decode cX12_layNames 42 = .ok (.lastore, 1) := by decide +kernel
theorem dX12_layNames_43 : decode cX12_layNames 43 = .ok (.aload_n 0, 1) := by decide +kernel
theorem dX12_layNames_44 : decode cX12_layNames 44 = .ok (.getfield 78, 3) := by decide +kernel
theorem dX12_layNames_47 : decode cX12_layNames 47 = .ok (.iconst 3, 1) := by decide +kernel
theorem dX12_layNames_48 : decode cX12_layNames 48 = .ok (.aload_n 0, 1) := by decide +kernel
theorem dX12_layNames_49 : decode cX12_layNames 49 = .ok (.getfield 88, 3) := by decide +kernel
theorem dX12_layNames_52 : decode cX12_layNames 52 = .ok (.bipush 6, 2) := by decide +kernel
theorem dX12_layNames_54 : decode cX12_layNames 54 = .ok (.iload_n 1, 1) := by decide +kernel
theorem dX12_layNames_55 : decode cX12_layNames 55 = .ok (.imul, 1) := by decide +kernel
theorem dX12_layNames_56 : decode cX12_layNames 56 = .ok (.iload_n 2, 1) := by decide +kernel
theorem dX12_layNames_57 : decode cX12_layNames 57 = .ok (.iadd, 1) := by decide +kernel
theorem dX12_layNames_58 : decode cX12_layNames 58 = .ok (.iaload, 1) := by decide +kernel
theorem dX12_layNames_59 : decode cX12_layNames 59 = .ok (.i2l, 1) := by decide +kernel
theorem dX12_layNames_60 : decode cX12_layNames 60 = .ok (.lastore, 1) := by decide +kernel
theorem dX12_layNames_61 : decode cX12_layNames 61 = .ok (.aload_n 0, 1) := by decide +kernel
theorem dX12_layNames_62 : decode cX12_layNames 62 = .ok (.getfield 78, 3) := by decide +kernel
theorem dX12_layNames_65 : decode cX12_layNames 65 = .ok (.iconst 4, 1) := by decide +kernel
theorem dX12_layNames_66 : decode cX12_layNames 66 = .ok (.aload_n 0, 1) := by decide +kernel
theorem dX12_layNames_67 : decode cX12_layNames 67 = .ok (.iload_n 1, 1) := by decide +kernel
theorem dX12_layNames_68 : decode cX12_layNames 68 = .ok (.iload_n 2, 1) := by decide +kernel
theorem dX12_layNames_69 : decode cX12_layNames 69 = .ok (.invokevirtual 374, 3) := by decide +kernel
theorem dX12_layNames_72 : decode cX12_layNames 72 = .ok (.invokestatic 387, 3) := by decide +kernel
theorem dX12_layNames_75 : decode cX12_layNames 75 = .ok (.i2l, 1) := by decide +kernel
theorem dX12_layNames_76 : decode cX12_layNames 76 = .ok (.lastore, 1) := by decide +kernel
theorem dX12_layNames_77 : decode cX12_layNames 77 = .ok (.aload_n 0, 1) := by decide +kernel
theorem dX12_layNames_78 : decode cX12_layNames 78 = .ok (.getfield 78, 3) := by decide +kernel
theorem dX12_layNames_81 : decode cX12_layNames 81 = .ok (.iconst 5, 1) := by decide +kernel
theorem dX12_layNames_82 : decode cX12_layNames 82 = .ok (.aload_n 0, 1) := by decide +kernel
theorem dX12_layNames_83 : decode cX12_layNames 83 = .ok (.getfield 91, 3) := by decide +kernel
theorem dX12_layNames_86 : decode cX12_layNames 86 = .ok (.bipush 6, 2) := by decide +kernel
theorem dX12_layNames_88 : decode cX12_layNames 88 = .ok (.iload_n 1, 1) := by decide +kernel
theorem dX12_layNames_89 : decode cX12_layNames 89 = .ok (.imul, 1) := by decide +kernel
theorem dX12_layNames_90 : decode cX12_layNames 90 = .ok (.iload_n 2, 1) := by decide +kernel
theorem dX12_layNames_91 : decode cX12_layNames 91 = .ok (.iadd, 1) := by decide +kernel
theorem dX12_layNames_92 : decode cX12_layNames 92 = .ok (.iaload, 1) := by decide +kernel
theorem dX12_layNames_93 : decode cX12_layNames 93 = .ok (.i2l, 1) := by decide +kernel
theorem dX12_layNames_94 : decode cX12_layNames 94 = .ok (.lastore, 1) := by decide +kernel
theorem dX12_layNames_95 : decode cX12_layNames 95 = .ok (.aload_n 0, 1) := by decide +kernel
theorem dX12_layNames_96 : decode cX12_layNames 96 = .ok (.getfield 78, 3) := by decide +kernel
theorem dX12_layNames_99 : decode cX12_layNames 99 = .ok (.bipush 6, 2) := by decide +kernel
theorem dX12_layNames_101 : decode cX12_layNames 101 = .ok (.aload_n 0, 1) := by decide +kernel
theorem dX12_layNames_102 : decode cX12_layNames 102 = .ok (.getfield 103, 3) := by decide +kernel
theorem dX12_layNames_105 : decode cX12_layNames 105 = .ok (.iload_n 1, 1) := by decide +kernel
theorem dX12_layNames_106 : decode cX12_layNames 106 = .ok (.iaload, 1) := by decide +kernel
theorem dX12_layNames_107 : decode cX12_layNames 107 = .ok (.i2l, 1) := by decide +kernel
theorem dX12_layNames_108 : decode cX12_layNames 108 = .ok (.lastore, 1) := by decide +kernel
theorem dX12_layNames_109 : decode cX12_layNames 109 = .ok (.return_, 1) := by decide +kernel
theorem dX12_lawOf_0 : decode cX12_lawOf 0 = .ok (.aload_n 0, 1) := by decide +kernel
theorem dX12_lawOf_1 : decode cX12_lawOf 1 = .ok (.iconst 0, 1) := by decide +kernel
theorem dX12_lawOf_2 : decode cX12_lawOf 2 = .ok (.putfield 324, 3) := by decide +kernel
theorem dX12_lawOf_5 : decode cX12_lawOf 5 = .ok (.aload_n 0, 1) := by decide +kernel
theorem dX12_lawOf_6 : decode cX12_lawOf 6 = .ok (.getfield 57, 3) := by decide +kernel
theorem dX12_lawOf_9 : decode cX12_lawOf 9 = .ok (.iload_n 1, 1) := by decide +kernel
theorem dX12_lawOf_10 : decode cX12_lawOf 10 = .ok (.iaload, 1) := by decide +kernel
theorem dX12_lawOf_11 : decode cX12_lawOf 11 = .ok (.istore_n 2, 1) := by decide +kernel
theorem dX12_lawOf_12 : decode cX12_lawOf 12 = .ok (.iload_n 2, 1) := by decide +kernel
theorem dX12_lawOf_13 : decode cX12_lawOf 13 = .ok (.aload_n 0, 1) := by decide +kernel
theorem dX12_lawOf_14 : decode cX12_lawOf 14 = .ok (.getfield 60, 3) := by decide +kernel
theorem dX12_lawOf_17 : decode cX12_lawOf 17 = .ok (.iload_n 1, 1) := by decide +kernel
theorem dX12_lawOf_18 : decode cX12_lawOf 18 = .ok (.iaload, 1) := by decide +kernel
theorem dX12_lawOf_19 : decode cX12_lawOf 19 = .ok (.if_icmp .ge 20, 3) := by decide +kernel
theorem dX12_lawOf_22 : decode cX12_lawOf 22 = .ok (.aload_n 0, 1) := by decide +kernel
theorem dX12_lawOf_23 : decode cX12_lawOf 23 = .ok (.getfield 82, 3) := by decide +kernel
theorem dX12_lawOf_26 : decode cX12_lawOf 26 = .ok (.iload_n 2, 1) := by decide +kernel
theorem dX12_lawOf_27 : decode cX12_lawOf 27 = .ok (.aload_n 0, 1) := by decide +kernel
theorem dX12_lawOf_28 : decode cX12_lawOf 28 = .ok (.iload_n 2, 1) := by decide +kernel
theorem dX12_lawOf_29 : decode cX12_lawOf 29 = .ok (.invokevirtual 390, 3) := by decide +kernel
theorem dX12_lawOf_32 : decode cX12_lawOf 32 = .ok (.lastore, 1) := by decide +kernel
theorem dX12_lawOf_33 : decode cX12_lawOf 33 = .ok (.iinc 2 1, 3) := by decide +kernel
theorem dX12_lawOf_36 : decode cX12_lawOf 36 = .ok (.goto (-24), 3) := by decide +kernel
theorem dX12_lawOf_39 : decode cX12_lawOf 39 = .ok (.aload_n 0, 1) := by decide +kernel
theorem dX12_lawOf_40 : decode cX12_lawOf 40 = .ok (.getfield 324, 3) := by decide +kernel
theorem dX12_lawOf_43 : decode cX12_lawOf 43 = .ok (.ifCond .eq 7, 3) := by decide +kernel
theorem dX12_lawOf_46 : decode cX12_lawOf 46 = .ok (.lconst 0, 1) := by decide +kernel
theorem dX12_lawOf_47 : decode cX12_lawOf 47 = .ok (.goto 16, 3) := by decide +kernel
theorem dX12_lawOf_50 : decode cX12_lawOf 50 = .ok (.aload_n 0, 1) := by decide +kernel
theorem dX12_lawOf_51 : decode cX12_lawOf 51 = .ok (.getfield 82, 3) := by decide +kernel
theorem dX12_lawOf_54 : decode cX12_lawOf 54 = .ok (.aload_n 0, 1) := by decide +kernel
theorem dX12_lawOf_55 : decode cX12_lawOf 55 = .ok (.getfield 60, 3) := by decide +kernel
theorem dX12_lawOf_58 : decode cX12_lawOf 58 = .ok (.iload_n 1, 1) := by decide +kernel
theorem dX12_lawOf_59 : decode cX12_lawOf 59 = .ok (.iaload, 1) := by decide +kernel
theorem dX12_lawOf_60 : decode cX12_lawOf 60 = .ok (.iconst 1, 1) := by decide +kernel
theorem dX12_lawOf_61 : decode cX12_lawOf 61 = .ok (.isub, 1) := by decide +kernel
theorem dX12_lawOf_62 : decode cX12_lawOf 62 = .ok (.laload, 1) := by decide +kernel
theorem dX12_lawOf_63 : decode cX12_lawOf 63 = .ok (.lreturn, 1) := by decide +kernel
theorem dX12_boundLaw_0 : decode cX12_boundLaw 0 = .ok (.aload_n 0, 1) := by decide +kernel
theorem dX12_boundLaw_1 : decode cX12_boundLaw 1 = .ok (.getfield 54, 3) := by decide +kernel
theorem dX12_boundLaw_4 : decode cX12_boundLaw 4 = .ok (.iload_n 1, 1) := by decide +kernel
theorem dX12_boundLaw_5 : decode cX12_boundLaw 5 = .ok (.baload, 1) := by decide +kernel
theorem dX12_boundLaw_6 : decode cX12_boundLaw 6 = .ok (.ifCond .ne 5, 3) := by decide +kernel
theorem dX12_boundLaw_9 : decode cX12_boundLaw 9 = .ok (.iload_n 2, 1) := by decide +kernel
theorem dX12_boundLaw_10 : decode cX12_boundLaw 10 = .ok (.ireturn, 1) := by decide +kernel
theorem dX12_boundLaw_11 : decode cX12_boundLaw 11 = .ok (.aload_n 0, 1) := by decide +kernel
theorem dX12_boundLaw_12 : decode cX12_boundLaw 12 = .ok (.iload_n 1, 1) := by decide +kernel
theorem dX12_boundLaw_13 : decode cX12_boundLaw 13 = .ok (.invokevirtual 394, 3) := by decide +kernel
theorem dX12_boundLaw_16 : decode cX12_boundLaw 16 = .ok (.lstore 4, 2) := by decide +kernel
theorem dX12_boundLaw_18 : decode cX12_boundLaw 18 = .ok (.aload_n 0, 1) := by decide +kernel
theorem dX12_boundLaw_19 : decode cX12_boundLaw 19 = .ok (.getfield 324, 3) := by decide +kernel
theorem dX12_boundLaw_22 : decode cX12_boundLaw 22 = .ok (.ifCond .eq 5, 3) := by decide +kernel
theorem dX12_boundLaw_25 : decode cX12_boundLaw 25 = .ok (.iload_n 2, 1) := by decide +kernel
theorem dX12_boundLaw_26 : decode cX12_boundLaw 26 = .ok (.ireturn, 1) := by decide +kernel
theorem dX12_boundLaw_27 : decode cX12_boundLaw 27 = .ok (.lload 4, 2) := by decide +kernel
theorem dX12_boundLaw_29 : decode cX12_boundLaw 29 = .ok (.lconst 0, 1) := by decide +kernel
theorem dX12_boundLaw_30 : decode cX12_boundLaw 30 = .ok (.lcmp, 1) := by decide +kernel
theorem dX12_boundLaw_31 : decode cX12_boundLaw 31 = .ok (.ifCond .ge 7, 3) := by decide +kernel
theorem dX12_boundLaw_34 : decode cX12_boundLaw 34 = .ok (.iconst 0, 1) := by decide +kernel
theorem dX12_boundLaw_35 : decode cX12_boundLaw 35 = .ok (.goto 18, 3) := by decide +kernel
theorem dX12_boundLaw_38 : decode cX12_boundLaw 38 = .ok (.lload 4, 2) := by decide +kernel
theorem dX12_boundLaw_40 : decode cX12_boundLaw 40 = .ok (.iload_n 3, 1) := by decide +kernel
theorem dX12_boundLaw_41 : decode cX12_boundLaw 41 = .ok (.i2l, 1) := by decide +kernel
theorem dX12_boundLaw_42 : decode cX12_boundLaw 42 = .ok (.lcmp, 1) := by decide +kernel
theorem dX12_boundLaw_43 : decode cX12_boundLaw 43 = .ok (.ifCond .le 7, 3) := by decide +kernel
theorem dX12_boundLaw_46 : decode cX12_boundLaw 46 = .ok (.iload_n 3, 1) := by decide +kernel
theorem dX12_boundLaw_47 : decode cX12_boundLaw 47 = .ok (.goto 6, 3) := by decide +kernel
theorem dX12_boundLaw_50 : decode cX12_boundLaw 50 = .ok (.lload 4, 2) := by decide +kernel
theorem dX12_boundLaw_52 : decode cX12_boundLaw 52 = .ok (.l2i, 1) := by decide +kernel
theorem dX12_boundLaw_53 : decode cX12_boundLaw 53 = .ok (.ireturn, 1) := by decide +kernel
theorem dX12_charmOf_0 : decode cX12_charmOf 0 = .ok (.aload_n 0, 1) := by decide +kernel
theorem dX12_charmOf_1 : decode cX12_charmOf 1 = .ok (.iload_n 1, 1) := by decide +kernel
theorem dX12_charmOf_2 : decode cX12_charmOf 2 = .ok (.iload_n 2, 1) := by decide +kernel
theorem dX12_charmOf_3 : decode cX12_charmOf 3 = .ok (.invokevirtual 397, 3) := by decide +kernel
theorem dX12_charmOf_6 : decode cX12_charmOf 6 = .ok (.aload_n 0, 1) := by decide +kernel
theorem dX12_charmOf_7 : decode cX12_charmOf 7 = .ok (.iconst 2, 1) := by decide +kernel
theorem dX12_charmOf_8 : decode cX12_charmOf 8 = .ok (.aload_n 0, 1) := by decide +kernel
theorem dX12_charmOf_9 : decode cX12_charmOf 9 = .ok (.iload_n 1, 1) := by decide +kernel
theorem dX12_charmOf_10 : decode cX12_charmOf 10 = .ok (.iload_n 2, 1) := by decide +kernel
theorem dX12_charmOf_11 : decode cX12_charmOf 11 = .ok (.invokevirtual 401, 3) := by decide +kernel
theorem dX12_charmOf_14 : decode cX12_charmOf 14 = .ok (.bipush 99, 2) := by decide +kernel
theorem dX12_charmOf_16 : decode cX12_charmOf 16 = .ok (.invokevirtual 404, 3) := by decide +kernel
theorem dX12_charmOf_19 : decode cX12_charmOf 19 = .ok (.ireturn, 1) := by decide +kernel
theorem dX12_number1_0 : decode cX12_number1 0 = .ok (.aload_n 0, 1) := by decide +kernel
theorem dX12_number1_1 : decode cX12_number1 1 = .ok (.aload_n 0, 1) := by decide +kernel
theorem dX12_number1_2 : decode cX12_number1 2 = .ok (.getfield 343, 3) := by decide +kernel
theorem dX12_number1_5 : decode cX12_number1 5 = .ok (.ldc2_w 407, 3) := by decide +kernel
theorem dX12_number1_8 : decode cX12_number1 8 = .ok (.lmul, 1) := by decide +kernel
theorem dX12_number1_9 : decode cX12_number1 9 = .ok (.ldc2_w 409, 3) := by decide +kernel
theorem dX12_number1_12 : decode cX12_number1 12 = .ok (.ladd, 1) := by decide +kernel
theorem dX12_number1_13 : decode cX12_number1 13 = .ok (.ldc2_w 411, 3) := by decide +kernel
theorem dX12_number1_16 : decode cX12_number1 16 = .ok (.land, 1) := by decide +kernel
theorem dX12_number1_17 : decode cX12_number1 17 = .ok (.putfield 343, 3) := by decide +kernel
theorem dX12_number1_20 : decode cX12_number1 20 = .ok (.aload_n 0, 1) := by decide +kernel
theorem dX12_number1_21 : decode cX12_number1 21 = .ok (.getfield 343, 3) := by decide +kernel
theorem dX12_number1_24 : decode cX12_number1 24 = .ok (.ldc2_w 413, 3) := by decide +kernel
theorem dX12_number1_27 : decode cX12_number1 27 = .ok (.ldiv, 1) := by decide +kernel
theorem dX12_number1_28 : decode cX12_number1 28 = .ok (.iload_n 1, 1) := by decide +kernel
theorem dX12_number1_29 : decode cX12_number1 29 = .ok (.i2l, 1) := by decide +kernel
theorem dX12_number1_30 : decode cX12_number1 30 = .ok (.lrem, 1) := by decide +kernel
theorem dX12_number1_31 : decode cX12_number1 31 = .ok (.l2i, 1) := by decide +kernel
theorem dX12_number1_32 : decode cX12_number1 32 = .ok (.ireturn, 1) := by decide +kernel
theorem dX12_isDamp_0 : decode cX12_isDamp 0 = .ok (.aload_n 0, 1) := by decide +kernel
theorem dX12_isDamp_1 : decode cX12_isDamp 1 = .ok (.getfield 362, 3) := by decide +kernel
theorem dX12_isDamp_4 : decode cX12_isDamp 4 = .ok (.ifCond .ne 12, 3) := by decide +kernel
theorem dX12_isDamp_7 : decode cX12_isDamp 7 = .ok (.aload_n 0, 1) := by decide +kernel
theorem dX12_isDamp_8 : decode cX12_isDamp 8 = .ok (.getfield 24, 3) := by decide +kernel
theorem dX12_isDamp_11 : decode cX12_isDamp 11 = .ok (.iconst 0, 1) := by decide +kernel
theorem dX12_isDamp_12 : decode cX12_isDamp 12 = .ok (.iaload, 1) := by decide +kernel
theorem dX12_isDamp_13 : decode cX12_isDamp 13 = .ok (.ifCond .ne 5, 3) := by decide +kernel
theorem dX12_isDamp_16 : decode cX12_isDamp 16 = .ok (.iconst 0, 1) := by decide +kernel
theorem dX12_isDamp_17 : decode cX12_isDamp 17 = .ok (.ireturn, 1) := by decide +kernel
theorem dX12_isDamp_18 : decode cX12_isDamp 18 = .ok (.aload_n 0, 1) := by decide +kernel
theorem dX12_isDamp_19 : decode cX12_isDamp 19 = .ok (.getfield 24, 3) := by decide +kernel
theorem dX12_isDamp_22 : decode cX12_isDamp 22 = .ok (.iconst 0, 1) := by decide +kernel
theorem dX12_isDamp_23 : decode cX12_isDamp 23 = .ok (.iaload, 1) := by decide +kernel
theorem dX12_isDamp_24 : decode cX12_isDamp 24 = .ok (.bipush 100, 2) := by decide +kernel
theorem dX12_isDamp_26 : decode cX12_isDamp 26 = .ok (.if_icmp .ne 5, 3) := by decide +kernel
theorem dX12_isDamp_29 : decode cX12_isDamp 29 = .ok (.iconst 1, 1) := by decide +kernel
theorem dX12_isDamp_30 : decode cX12_isDamp 30 = .ok (.ireturn, 1) := by decide +kernel
theorem dX12_isDamp_31 : decode cX12_isDamp 31 = .ok (.aload_n 0, 1) := by decide +kernel
theorem dX12_isDamp_32 : decode cX12_isDamp 32 = .ok (.getfield 359, 3) := by decide +kernel
theorem dX12_isDamp_35 : decode cX12_isDamp 35 = .ok (.ifCond .eq 26, 3) := by decide +kernel
theorem dX12_isDamp_38 : decode cX12_isDamp 38 = .ok (.aload_n 0, 1) := by decide +kernel
theorem dX12_isDamp_39 : decode cX12_isDamp 39 = .ok (.bipush 100, 2) := by decide +kernel
theorem dX12_isDamp_41 : decode cX12_isDamp 41 = .ok (.invokevirtual 415, 3) := by decide +kernel
theorem dX12_isDamp_44 : decode cX12_isDamp 44 = .ok (.aload_n 0, 1) := by decide +kernel
theorem dX12_isDamp_45 : decode cX12_isDamp 45 = .ok (.getfield 24, 3) := by decide +kernel
theorem dX12_isDamp_48 : decode cX12_isDamp 48 = .ok (.iconst 0, 1) := by decide +kernel
theorem dX12_isDamp_49 : decode cX12_isDamp 49 = .ok (.iaload, 1) := by decide +kernel
theorem dX12_isDamp_50 : decode cX12_isDamp 50 = .ok (.if_icmp .ge 7, 3) := by decide +kernel
theorem dX12_isDamp_53 : decode cX12_isDamp 53 = .ok (.iconst 1, 1) := by decide +kernel
theorem dX12_isDamp_54 : decode cX12_isDamp 54 = .ok (.goto 23, 3) := by decide +kernel
theorem dX12_isDamp_57 : decode cX12_isDamp 57 = .ok (.iconst 0, 1) := by decide +kernel
theorem dX12_isDamp_58 : decode cX12_isDamp 58 = .ok (.goto 19, 3) := by decide +kernel
theorem dX12_isDamp_61 : decode cX12_isDamp 61 = .ok (.aload_n 0, 1) := by decide +kernel
theorem dX12_isDamp_62 : decode cX12_isDamp 62 = .ok (.getfield 24, 3) := by decide +kernel
theorem dX12_isDamp_65 : decode cX12_isDamp 65 = .ok (.iconst 0, 1) := by decide +kernel
theorem dX12_isDamp_66 : decode cX12_isDamp 66 = .ok (.iaload, 1) := by decide +kernel
theorem dX12_isDamp_67 : decode cX12_isDamp 67 = .ok (.bipush 50, 2) := by decide +kernel
theorem dX12_isDamp_69 : decode cX12_isDamp 69 = .ok (.if_icmp .lt 7, 3) := by decide +kernel
theorem dX12_isDamp_72 : decode cX12_isDamp 72 = .ok (.iconst 1, 1) := by decide +kernel
theorem dX12_isDamp_73 : decode cX12_isDamp 73 = .ok (.goto 4, 3) := by decide +kernel
theorem dX12_isDamp_76 : decode cX12_isDamp 76 = .ok (.iconst 0, 1) := by decide +kernel
theorem dX12_isDamp_77 : decode cX12_isDamp 77 = .ok (.ireturn, 1) := by decide +kernel
theorem dX12_goes_0 : decode cX12_goes 0 = .ok (.iload_n 2, 1) := by decide +kernel
theorem dX12_goes_1 : decode cX12_goes 1 = .ok (.aload_n 0, 1) := by decide +kernel
theorem dX12_goes_2 : decode cX12_goes 2 = .ok (.getfield 371, 3) := by decide +kernel
theorem dX12_goes_5 : decode cX12_goes 5 = .ok (.if_icmp .eq 42, 3) := by decide +kernel
theorem dX12_goes_8 : decode cX12_goes 8 = .ok (.aload_n 0, 1) := by decide +kernel
theorem dX12_goes_9 : decode cX12_goes 9 = .ok (.getfield 97, 3) := by decide +kernel
theorem dX12_goes_12 : decode cX12_goes 12 = .ok (.bipush 6, 2) := by decide +kernel
theorem dX12_goes_14 : decode cX12_goes 14 = .ok (.iload_n 1, 1) := by decide +kernel
theorem dX12_goes_15 : decode cX12_goes 15 = .ok (.imul, 1) := by decide +kernel
theorem dX12_goes_16 : decode cX12_goes 16 = .ok (.iload_n 2, 1) := by decide +kernel
theorem dX12_goes_17 : decode cX12_goes 17 = .ok (.iadd, 1) := by decide +kernel
theorem dX12_goes_18 : decode cX12_goes 18 = .ok (.baload, 1) := by decide +kernel
theorem dX12_goes_19 : decode cX12_goes 19 = .ok (.ifCond .eq 10, 3) := by decide +kernel
theorem dX12_goes_22 : decode cX12_goes 22 = .ok (.aload_n 0, 1) := by decide +kernel
theorem dX12_goes_23 : decode cX12_goes 23 = .ok (.getfield 365, 3) := by decide +kernel
theorem dX12_goes_26 : decode cX12_goes 26 = .ok (.ifCond .eq 21, 3) := by decide +kernel
theorem dX12_goes_29 : decode cX12_goes 29 = .ok (.aload_n 0, 1) := by decide +kernel
theorem dX12_goes_30 : decode cX12_goes 30 = .ok (.getfield 85, 3) := by decide +kernel
theorem dX12_goes_33 : decode cX12_goes 33 = .ok (.bipush 6, 2) := by decide +kernel
theorem dX12_goes_35 : decode cX12_goes 35 = .ok (.iload_n 1, 1) := by decide +kernel
theorem dX12_goes_36 : decode cX12_goes 36 = .ok (.imul, 1) := by decide +kernel
theorem dX12_goes_37 : decode cX12_goes 37 = .ok (.iload_n 2, 1) := by decide +kernel
theorem dX12_goes_38 : decode cX12_goes 38 = .ok (.iadd, 1) := by decide +kernel
theorem dX12_goes_39 : decode cX12_goes 39 = .ok (.iaload, 1) := by decide +kernel
theorem dX12_goes_40 : decode cX12_goes 40 = .ok (.ifCond .le 7, 3) := by decide +kernel
theorem dX12_goes_43 : decode cX12_goes 43 = .ok (.iconst 1, 1) := by decide +kernel
theorem dX12_goes_44 : decode cX12_goes 44 = .ok (.goto 4, 3) := by decide +kernel
theorem dX12_goes_47 : decode cX12_goes 47 = .ok (.iconst 0, 1) := by decide +kernel
theorem dX12_goes_48 : decode cX12_goes 48 = .ok (.ireturn, 1) := by decide +kernel
theorem dX12_letGo_0 : decode cX12_letGo 0 = .ok (.bipush 6, 2) := by decide +kernel
theorem dX12_letGo_2 : decode cX12_letGo 2 = .ok (.iload_n 1, 1) := by decide +kernel
theorem dX12_letGo_3 : decode cX12_letGo 3 = .ok (.imul, 1) := by decide +kernel
theorem dX12_letGo_4 : decode cX12_letGo 4 = .ok (.iload_n 2, 1) := by decide +kernel
theorem dX12_letGo_5 : decode cX12_letGo 5 = .ok (.iadd, 1) := by decide +kernel
theorem dX12_letGo_6 : decode cX12_letGo 6 = .ok (.istore_n 3, 1) := by decide +kernel
theorem dX12_letGo_7 : decode cX12_letGo 7 = .ok (.aload_n 0, 1) := by decide +kernel
theorem dX12_letGo_8 : decode cX12_letGo 8 = .ok (.getfield 91, 3) := by decide +kernel
theorem dX12_letGo_11 : decode cX12_letGo 11 = .ok (.iload_n 3, 1) := by decide +kernel
theorem dX12_letGo_12 : decode cX12_letGo 12 = .ok (.dup2, 1) := by decide +kernel
theorem dX12_letGo_13 : decode cX12_letGo 13 = .ok (.iaload, 1) := by decide +kernel
theorem dX12_letGo_14 : decode cX12_letGo 14 = .ok (.iconst 1, 1) := by decide +kernel
theorem dX12_letGo_15 : decode cX12_letGo 15 = .ok (.iadd, 1) := by decide +kernel
theorem dX12_letGo_16 : decode cX12_letGo 16 = .ok (.iastore, 1) := by decide +kernel
theorem dX12_letGo_17 : decode cX12_letGo 17 = .ok (.aload_n 0, 1) := by decide +kernel
theorem dX12_letGo_18 : decode cX12_letGo 18 = .ok (.iload_n 1, 1) := by decide +kernel
theorem dX12_letGo_19 : decode cX12_letGo 19 = .ok (.iload_n 2, 1) := by decide +kernel
theorem dX12_letGo_20 : decode cX12_letGo 20 = .ok (.invokevirtual 418, 3) := by decide +kernel
theorem dX12_letGo_23 : decode cX12_letGo 23 = .ok (.istore 4, 2) := by decide +kernel
theorem dX12_letGo_25 : decode cX12_letGo 25 = .ok (.aload_n 0, 1) := by decide +kernel
theorem dX12_letGo_26 : decode cX12_letGo 26 = .ok (.getfield 94, 3) := by decide +kernel
theorem dX12_letGo_29 : decode cX12_letGo 29 = .ok (.iload_n 3, 1) := by decide +kernel
theorem dX12_letGo_30 : decode cX12_letGo 30 = .ok (.dup2, 1) := by decide +kernel
theorem dX12_letGo_31 : decode cX12_letGo 31 = .ok (.iaload, 1) := by decide +kernel
theorem dX12_letGo_32 : decode cX12_letGo 32 = .ok (.iload 4, 2) := by decide +kernel
theorem dX12_letGo_34 : decode cX12_letGo 34 = .ok (.iadd, 1) := by decide +kernel
theorem dX12_letGo_35 : decode cX12_letGo 35 = .ok (.iastore, 1) := by decide +kernel
theorem dX12_letGo_36 : decode cX12_letGo 36 = .ok (.aload_n 0, 1) := by decide +kernel
theorem dX12_letGo_37 : decode cX12_letGo 37 = .ok (.iload_n 1, 1) := by decide +kernel
theorem dX12_letGo_38 : decode cX12_letGo 38 = .ok (.iload_n 2, 1) := by decide +kernel
theorem dX12_letGo_39 : decode cX12_letGo 39 = .ok (.invokevirtual 397, 3) := by decide +kernel
theorem dX12_letGo_42 : decode cX12_letGo 42 = .ok (.aload_n 0, 1) := by decide +kernel
theorem dX12_letGo_43 : decode cX12_letGo 43 = .ok (.iconst 0, 1) := by decide +kernel
theorem dX12_letGo_44 : decode cX12_letGo 44 = .ok (.iconst 1, 1) := by decide +kernel
theorem dX12_letGo_45 : decode cX12_letGo 45 = .ok (.bipush 9, 2) := by decide +kernel
theorem dX12_letGo_47 : decode cX12_letGo 47 = .ok (.invokevirtual 404, 3) := by decide +kernel
theorem dX12_letGo_50 : decode cX12_letGo 50 = .ok (.istore 5, 2) := by decide +kernel
theorem dX12_letGo_52 : decode cX12_letGo 52 = .ok (.aload_n 0, 1) := by decide +kernel
theorem dX12_letGo_53 : decode cX12_letGo 53 = .ok (.getfield 85, 3) := by decide +kernel
theorem dX12_letGo_56 : decode cX12_letGo 56 = .ok (.iload_n 3, 1) := by decide +kernel
theorem dX12_letGo_57 : decode cX12_letGo 57 = .ok (.aload_n 0, 1) := by decide +kernel
theorem dX12_letGo_58 : decode cX12_letGo 58 = .ok (.getfield 85, 3) := by decide +kernel
theorem dX12_letGo_61 : decode cX12_letGo 61 = .ok (.iload_n 3, 1) := by decide +kernel
theorem dX12_letGo_62 : decode cX12_letGo 62 = .ok (.iaload, 1) := by decide +kernel
theorem dX12_letGo_63 : decode cX12_letGo 63 = .ok (.iload 5, 2) := by decide +kernel
theorem dX12_letGo_65 : decode cX12_letGo 65 = .ok (.if_icmp .le 15, 3) := by decide +kernel
theorem dX12_letGo_68 : decode cX12_letGo 68 = .ok (.aload_n 0, 1) := by decide +kernel
theorem dX12_letGo_69 : decode cX12_letGo 69 = .ok (.getfield 85, 3) := by decide +kernel
theorem dX12_letGo_72 : decode cX12_letGo 72 = .ok (.iload_n 3, 1) := by decide +kernel
theorem dX12_letGo_73 : decode cX12_letGo 73 = .ok (.iaload, 1) := by decide +kernel
theorem dX12_letGo_74 : decode cX12_letGo 74 = .ok (.iload 5, 2) := by decide +kernel
theorem dX12_letGo_76 : decode cX12_letGo 76 = .ok (.isub, 1) := by decide +kernel
theorem dX12_letGo_77 : decode cX12_letGo 77 = .ok (.goto 4, 3) := by decide +kernel
theorem dX12_letGo_80 : decode cX12_letGo 80 = .ok (.iconst 0, 1) := by decide +kernel
theorem dX12_letGo_81 : decode cX12_letGo 81 = .ok (.iastore, 1) := by decide +kernel
theorem dX12_letGo_82 : decode cX12_letGo 82 = .ok (.return_, 1) := by decide +kernel
theorem dX12_yearGoes_0 : decode cX12_yearGoes 0 = .ok (.iconst 0, 1) := by decide +kernel
theorem dX12_yearGoes_1 : decode cX12_yearGoes 1 = .ok (.istore_n 2, 1) := by decide +kernel
theorem dX12_yearGoes_2 : decode cX12_yearGoes 2 = .ok (.iload_n 2, 1) := by decide +kernel
theorem dX12_yearGoes_3 : decode cX12_yearGoes 3 = .ok (.aload_n 0, 1) := by decide +kernel
theorem dX12_yearGoes_4 : decode cX12_yearGoes 4 = .ok (.getfield 219, 3) := by decide +kernel
theorem dX12_yearGoes_7 : decode cX12_yearGoes 7 = .ok (.if_icmp .ge 24, 3) := by decide +kernel
theorem dX12_yearGoes_10 : decode cX12_yearGoes 10 = .ok (.aload_n 0, 1) := by decide +kernel
theorem dX12_yearGoes_11 : decode cX12_yearGoes 11 = .ok (.iload_n 1, 1) := by decide +kernel
theorem dX12_yearGoes_12 : decode cX12_yearGoes 12 = .ok (.iload_n 2, 1) := by decide +kernel
theorem dX12_yearGoes_13 : decode cX12_yearGoes 13 = .ok (.invokevirtual 421, 3) := by decide +kernel
theorem dX12_yearGoes_16 : decode cX12_yearGoes 16 = .ok (.ifCond .eq 9, 3) := by decide +kernel
theorem dX12_yearGoes_19 : decode cX12_yearGoes 19 = .ok (.aload_n 0, 1) := by decide +kernel
theorem dX12_yearGoes_20 : decode cX12_yearGoes 20 = .ok (.iload_n 1, 1) := by decide +kernel
theorem dX12_yearGoes_21 : decode cX12_yearGoes 21 = .ok (.iload_n 2, 1) := by decide +kernel
theorem dX12_yearGoes_22 : decode cX12_yearGoes 22 = .ok (.invokevirtual 424, 3) := by decide +kernel
theorem dX12_yearGoes_25 : decode cX12_yearGoes 25 = .ok (.iinc 2 1, 3) := by decide +kernel
theorem dX12_yearGoes_28 : decode cX12_yearGoes 28 = .ok (.goto (-26), 3) := by decide +kernel
theorem dX12_yearGoes_31 : decode cX12_yearGoes 31 = .ok (.aload_n 0, 1) := by decide +kernel
theorem dX12_yearGoes_32 : decode cX12_yearGoes 32 = .ok (.invokevirtual 427, 3) := by decide +kernel
theorem dX12_yearGoes_35 : decode cX12_yearGoes 35 = .ok (.ifCond .eq 102, 3) := by decide +kernel
theorem dX12_yearGoes_38 : decode cX12_yearGoes 38 = .ok (.aload_n 0, 1) := by decide +kernel
theorem dX12_yearGoes_39 : decode cX12_yearGoes 39 = .ok (.getfield 106, 3) := by decide +kernel
theorem dX12_yearGoes_42 : decode cX12_yearGoes 42 = .ok (.iload_n 1, 1) := by decide +kernel
theorem dX12_yearGoes_43 : decode cX12_yearGoes 43 = .ok (.dup2, 1) := by decide +kernel
theorem dX12_yearGoes_44 : decode cX12_yearGoes 44 = .ok (.iaload, 1) := by decide +kernel
theorem dX12_yearGoes_45 : decode cX12_yearGoes 45 = .ok (.iconst 1, 1) := by decide +kernel
theorem dX12_yearGoes_46 : decode cX12_yearGoes 46 = .ok (.iadd, 1) := by decide +kernel
theorem dX12_yearGoes_47 : decode cX12_yearGoes 47 = .ok (.iastore, 1) := by decide +kernel
theorem dX12_yearGoes_48 : decode cX12_yearGoes 48 = .ok (.iconst 0, 1) := by decide +kernel
theorem dX12_yearGoes_49 : decode cX12_yearGoes 49 = .ok (.istore_n 2, 1) := by decide +kernel
theorem dX12_yearGoes_50 : decode cX12_yearGoes 50 = .ok (.iload_n 2, 1) := by decide +kernel
theorem dX12_yearGoes_51 : decode cX12_yearGoes 51 = .ok (.aload_n 0, 1) := by decide +kernel
theorem dX12_yearGoes_52 : decode cX12_yearGoes 52 = .ok (.getfield 219, 3) := by decide +kernel
theorem dX12_yearGoes_55 : decode cX12_yearGoes 55 = .ok (.if_icmp .ge 82, 3) := by decide +kernel
theorem dX12_yearGoes_58 : decode cX12_yearGoes 58 = .ok (.iload_n 2, 1) := by decide +kernel
theorem dX12_yearGoes_59 : decode cX12_yearGoes 59 = .ok (.aload_n 0, 1) := by decide +kernel
theorem dX12_yearGoes_60 : decode cX12_yearGoes 60 = .ok (.getfield 371, 3) := by decide +kernel
theorem dX12_yearGoes_63 : decode cX12_yearGoes 63 = .ok (.if_icmp .ne 6, 3) := by decide +kernel
theorem dX12_yearGoes_66 : decode cX12_yearGoes 66 = .ok (.goto 65, 3) := by decide +kernel
theorem dX12_yearGoes_69 : decode cX12_yearGoes 69 = .ok (.aload_n 0, 1) := by decide +kernel
theorem dX12_yearGoes_70 : decode cX12_yearGoes 70 = .ok (.iload_n 1, 1) := by decide +kernel
theorem dX12_yearGoes_71 : decode cX12_yearGoes 71 = .ok (.iload_n 2, 1) := by decide +kernel
theorem dX12_yearGoes_72 : decode cX12_yearGoes 72 = .ok (.invokevirtual 397, 3) := by decide +kernel
theorem dX12_yearGoes_75 : decode cX12_yearGoes 75 = .ok (.aload_n 0, 1) := by decide +kernel
theorem dX12_yearGoes_76 : decode cX12_yearGoes 76 = .ok (.iconst 1, 1) := by decide +kernel
theorem dX12_yearGoes_77 : decode cX12_yearGoes 77 = .ok (.iconst 1, 1) := by decide +kernel
theorem dX12_yearGoes_78 : decode cX12_yearGoes 78 = .ok (.bipush 9, 2) := by decide +kernel
theorem dX12_yearGoes_80 : decode cX12_yearGoes 80 = .ok (.invokevirtual 404, 3) := by decide +kernel
theorem dX12_yearGoes_83 : decode cX12_yearGoes 83 = .ok (.istore_n 3, 1) := by decide +kernel
theorem dX12_yearGoes_84 : decode cX12_yearGoes 84 = .ok (.aload_n 0, 1) := by decide +kernel
theorem dX12_yearGoes_85 : decode cX12_yearGoes 85 = .ok (.getfield 88, 3) := by decide +kernel
theorem dX12_yearGoes_88 : decode cX12_yearGoes 88 = .ok (.bipush 6, 2) := by decide +kernel
theorem dX12_yearGoes_90 : decode cX12_yearGoes 90 = .ok (.iload_n 1, 1) := by decide +kernel
theorem dX12_yearGoes_91 : decode cX12_yearGoes 91 = .ok (.imul, 1) := by decide +kernel
theorem dX12_yearGoes_92 : decode cX12_yearGoes 92 = .ok (.iload_n 2, 1) := by decide +kernel
theorem dX12_yearGoes_93 : decode cX12_yearGoes 93 = .ok (.iadd, 1) := by decide +kernel
theorem dX12_yearGoes_94 : decode cX12_yearGoes 94 = .ok (.aload_n 0, 1) := by decide +kernel
theorem dX12_yearGoes_95 : decode cX12_yearGoes 95 = .ok (.getfield 88, 3) := by decide +kernel
theorem dX12_yearGoes_98 : decode cX12_yearGoes 98 = .ok (.bipush 6, 2) := by decide +kernel
theorem dX12_yearGoes_100 : decode cX12_yearGoes 100 = .ok (.iload_n 1, 1) := by decide +kernel
theorem dX12_yearGoes_101 : decode cX12_yearGoes 101 = .ok (.imul, 1) := by decide +kernel
theorem dX12_yearGoes_102 : decode cX12_yearGoes 102 = .ok (.iload_n 2, 1) := by decide +kernel
theorem dX12_yearGoes_103 : decode cX12_yearGoes 103 = .ok (.iadd, 1) := by decide +kernel
theorem dX12_yearGoes_104 : decode cX12_yearGoes 104 = .ok (.iaload, 1) := by decide +kernel
theorem dX12_yearGoes_105 : decode cX12_yearGoes 105 = .ok (.iload_n 3, 1) := by decide +kernel
theorem dX12_yearGoes_106 : decode cX12_yearGoes 106 = .ok (.iadd, 1) := by decide +kernel
theorem dX12_yearGoes_107 : decode cX12_yearGoes 107 = .ok (.bipush 99, 2) := by decide +kernel
theorem dX12_yearGoes_109 : decode cX12_yearGoes 109 = .ok (.if_icmp .le 8, 3) := by decide +kernel
theorem dX12_yearGoes_112 : decode cX12_yearGoes 112 = .ok (.bipush 99, 2) := by decide +kernel
theorem dX12_yearGoes_114 : decode cX12_yearGoes 114 = .ok (.goto 16, 3) := by decide +kernel
theorem dX12_yearGoes_117 : decode cX12_yearGoes 117 = .ok (.aload_n 0, 1) := by decide +kernel
theorem dX12_yearGoes_118 : decode cX12_yearGoes 118 = .ok (.getfield 88, 3) := by decide +kernel
theorem dX12_yearGoes_121 : decode cX12_yearGoes 121 = .ok (.bipush 6, 2) := by decide +kernel
theorem dX12_yearGoes_123 : decode cX12_yearGoes 123 = .ok (.iload_n 1, 1) := by decide +kernel
theorem dX12_yearGoes_124 : decode cX12_yearGoes 124 = .ok (.imul, 1) := by decide +kernel
theorem dX12_yearGoes_125 : decode cX12_yearGoes 125 = .ok (.iload_n 2, 1) := by decide +kernel
theorem dX12_yearGoes_126 : decode cX12_yearGoes 126 = .ok (.iadd, 1) := by decide +kernel
theorem dX12_yearGoes_127 : decode cX12_yearGoes 127 = .ok (.iaload, 1) := by decide +kernel
theorem dX12_yearGoes_128 : decode cX12_yearGoes 128 = .ok (.iload_n 3, 1) := by decide +kernel
theorem dX12_yearGoes_129 : decode cX12_yearGoes 129 = .ok (.iadd, 1) := by decide +kernel
theorem dX12_yearGoes_130 : decode cX12_yearGoes 130 = .ok (.iastore, 1) := by decide +kernel
theorem dX12_yearGoes_131 : decode cX12_yearGoes 131 = .ok (.iinc 2 1, 3) := by decide +kernel
theorem dX12_yearGoes_134 : decode cX12_yearGoes 134 = .ok (.goto (-84), 3) := by decide +kernel
theorem dX12_yearGoes_137 : decode cX12_yearGoes 137 = .ok (.aload_n 0, 1) := by decide +kernel
theorem dX12_yearGoes_138 : decode cX12_yearGoes 138 = .ok (.getfield 103, 3) := by decide +kernel
theorem dX12_yearGoes_141 : decode cX12_yearGoes 141 = .ok (.iload_n 1, 1) := by decide +kernel
theorem dX12_yearGoes_142 : decode cX12_yearGoes 142 = .ok (.dup2, 1) := by decide +kernel
theorem dX12_yearGoes_143 : decode cX12_yearGoes 143 = .ok (.iaload, 1) := by decide +kernel
theorem dX12_yearGoes_144 : decode cX12_yearGoes 144 = .ok (.iconst 1, 1) := by decide +kernel
theorem dX12_yearGoes_145 : decode cX12_yearGoes 145 = .ok (.iadd, 1) := by decide +kernel
theorem dX12_yearGoes_146 : decode cX12_yearGoes 146 = .ok (.iastore, 1) := by decide +kernel
theorem dX12_yearGoes_147 : decode cX12_yearGoes 147 = .ok (.return_, 1) := by decide +kernel
theorem dX12_goMany_0 : decode cX12_goMany 0 = .ok (.iconst 0, 1) := by decide +kernel
theorem dX12_goMany_1 : decode cX12_goMany 1 = .ok (.istore_n 2, 1) := by decide +kernel
theorem dX12_goMany_2 : decode cX12_goMany 2 = .ok (.iload_n 2, 1) := by decide +kernel
theorem dX12_goMany_3 : decode cX12_goMany 3 = .ok (.iload_n 1, 1) := by decide +kernel
theorem dX12_goMany_4 : decode cX12_goMany 4 = .ok (.if_icmp .ge 14, 3) := by decide +kernel
theorem dX12_goMany_7 : decode cX12_goMany 7 = .ok (.aload_n 0, 1) := by decide +kernel
theorem dX12_goMany_8 : decode cX12_goMany 8 = .ok (.iconst 1, 1) := by decide +kernel
theorem dX12_goMany_9 : decode cX12_goMany 9 = .ok (.invokevirtual 430, 3) := by decide +kernel
theorem dX12_goMany_12 : decode cX12_goMany 12 = .ok (.iinc 2 1, 3) := by decide +kernel
theorem dX12_goMany_15 : decode cX12_goMany 15 = .ok (.goto (-13), 3) := by decide +kernel
theorem dX12_goMany_18 : decode cX12_goMany 18 = .ok (.return_, 1) := by decide +kernel
theorem dX12_laughsAll_0 : decode cX12_laughsAll 0 = .ok (.iconst 0, 1) := by decide +kernel
theorem dX12_laughsAll_1 : decode cX12_laughsAll 1 = .ok (.istore_n 2, 1) := by decide +kernel
theorem dX12_laughsAll_2 : decode cX12_laughsAll 2 = .ok (.iconst 0, 1) := by decide +kernel
theorem dX12_laughsAll_3 : decode cX12_laughsAll 3 = .ok (.istore_n 3, 1) := by decide +kernel
theorem dX12_laughsAll_4 : decode cX12_laughsAll 4 = .ok (.iload_n 3, 1) := by decide +kernel
theorem dX12_laughsAll_5 : decode cX12_laughsAll 5 = .ok (.aload_n 0, 1) := by decide +kernel
theorem dX12_laughsAll_6 : decode cX12_laughsAll 6 = .ok (.getfield 219, 3) := by decide +kernel
theorem dX12_laughsAll_9 : decode cX12_laughsAll 9 = .ok (.if_icmp .ge 23, 3) := by decide +kernel
theorem dX12_laughsAll_12 : decode cX12_laughsAll 12 = .ok (.iload_n 2, 1) := by decide +kernel
theorem dX12_laughsAll_13 : decode cX12_laughsAll 13 = .ok (.aload_n 0, 1) := by decide +kernel
theorem dX12_laughsAll_14 : decode cX12_laughsAll 14 = .ok (.getfield 94, 3) := by decide +kernel
theorem dX12_laughsAll_17 : decode cX12_laughsAll 17 = .ok (.bipush 6, 2) := by decide +kernel
theorem dX12_laughsAll_19 : decode cX12_laughsAll 19 = .ok (.iload_n 1, 1) := by decide +kernel
theorem dX12_laughsAll_20 : decode cX12_laughsAll 20 = .ok (.imul, 1) := by decide +kernel
theorem dX12_laughsAll_21 : decode cX12_laughsAll 21 = .ok (.iload_n 3, 1) := by decide +kernel
theorem dX12_laughsAll_22 : decode cX12_laughsAll 22 = .ok (.iadd, 1) := by decide +kernel
theorem dX12_laughsAll_23 : decode cX12_laughsAll 23 = .ok (.iaload, 1) := by decide +kernel
theorem dX12_laughsAll_24 : decode cX12_laughsAll 24 = .ok (.iadd, 1) := by decide +kernel
theorem dX12_laughsAll_25 : decode cX12_laughsAll 25 = .ok (.istore_n 2, 1) := by decide +kernel
theorem dX12_laughsAll_26 : decode cX12_laughsAll 26 = .ok (.iinc 3 1, 3) := by decide +kernel
theorem dX12_laughsAll_29 : decode cX12_laughsAll 29 = .ok (.goto (-25), 3) := by decide +kernel
theorem dX12_laughsAll_32 : decode cX12_laughsAll 32 = .ok (.iload_n 2, 1) := by decide +kernel
theorem dX12_laughsAll_33 : decode cX12_laughsAll 33 = .ok (.ireturn, 1) := by decide +kernel
theorem dX12_fails_0 : decode cX12_fails 0 = .ok (.aload_n 0, 1) := by decide +kernel
theorem dX12_fails_1 : decode cX12_fails 1 = .ok (.iload_n 1, 1) := by decide +kernel
theorem dX12_fails_2 : decode cX12_fails 2 = .ok (.putfield 139, 3) := by decide +kernel
theorem dX12_fails_5 : decode cX12_fails 5 = .ok (.iconst 0, 1) := by decide +kernel
theorem dX12_fails_6 : decode cX12_fails 6 = .ok (.ireturn, 1) := by decide +kernel
theorem dX12_box_0 : decode cX12_box 0 = .ok (.aload_n 0, 1) := by decide +kernel
theorem dX12_box_1 : decode cX12_box 1 = .ok (.iconst 0, 1) := by decide +kernel
theorem dX12_box_2 : decode cX12_box 2 = .ok (.putfield 139, 3) := by decide +kernel
theorem dX12_box_5 : decode cX12_box 5 = .ok (.aload_n 0, 1) := by decide +kernel
theorem dX12_box_6 : decode cX12_box 6 = .ok (.iload_n 1, 1) := by decide +kernel
theorem dX12_box_7 : decode cX12_box 7 = .ok (.invokevirtual 433, 3) := by decide +kernel
theorem dX12_box_10 : decode cX12_box 10 = .ok (.ifCond .ne 9, 3) := by decide +kernel
theorem dX12_box_13 : decode cX12_box 13 = .ok (.aload_n 0, 1) := by decide +kernel
theorem dX12_box_14 : decode cX12_box 14 = .ok (.iconst 1, 1) := by decide +kernel
theorem dX12_box_15 : decode cX12_box 15 = .ok (.invokevirtual 436, 3) := by decide +kernel
theorem dX12_box_18 : decode cX12_box 18 = .ok (.ireturn, 1) := by decide +kernel
theorem dX12_box_19 : decode cX12_box 19 = .ok (.iload_n 2, 1) := by decide +kernel
theorem dX12_box_20 : decode cX12_box 20 = .ok (.tableswitch 101 0 6 #[44, 51, 58, 65, 72, 79, 94], 44) := by decide +kernel
theorem dX12_box_64 : decode cX12_box 64 = .ok (.aload_n 0, 1) := by decide +kernel
theorem dX12_box_65 : decode cX12_box 65 = .ok (.getfield 85, 3) := by decide +kernel
theorem dX12_box_68 : decode cX12_box 68 = .ok (.iload_n 1, 1) := by decide +kernel
theorem dX12_box_69 : decode cX12_box 69 = .ok (.iaload, 1) := by decide +kernel
theorem dX12_box_70 : decode cX12_box 70 = .ok (.ireturn, 1) := by decide +kernel
theorem dX12_box_71 : decode cX12_box 71 = .ok (.aload_n 0, 1) := by decide +kernel
theorem dX12_box_72 : decode cX12_box 72 = .ok (.getfield 33, 3) := by decide +kernel
theorem dX12_box_75 : decode cX12_box 75 = .ok (.iload_n 1, 1) := by decide +kernel
theorem dX12_box_76 : decode cX12_box 76 = .ok (.iaload, 1) := by decide +kernel
theorem dX12_box_77 : decode cX12_box 77 = .ok (.ireturn, 1) := by decide +kernel
theorem dX12_box_78 : decode cX12_box 78 = .ok (.aload_n 0, 1) := by decide +kernel
theorem dX12_box_79 : decode cX12_box 79 = .ok (.getfield 88, 3) := by decide +kernel
theorem dX12_box_82 : decode cX12_box 82 = .ok (.iload_n 1, 1) := by decide +kernel
theorem dX12_box_83 : decode cX12_box 83 = .ok (.iaload, 1) := by decide +kernel
theorem dX12_box_84 : decode cX12_box 84 = .ok (.ireturn, 1) := by decide +kernel
theorem dX12_box_85 : decode cX12_box 85 = .ok (.aload_n 0, 1) := by decide +kernel
theorem dX12_box_86 : decode cX12_box 86 = .ok (.getfield 91, 3) := by decide +kernel
theorem dX12_box_89 : decode cX12_box 89 = .ok (.iload_n 1, 1) := by decide +kernel
theorem dX12_box_90 : decode cX12_box 90 = .ok (.iaload, 1) := by decide +kernel
theorem dX12_box_91 : decode cX12_box 91 = .ok (.ireturn, 1) := by decide +kernel
theorem dX12_box_92 : decode cX12_box 92 = .ok (.aload_n 0, 1) := by decide +kernel
theorem dX12_box_93 : decode cX12_box 93 = .ok (.getfield 94, 3) := by decide +kernel
theorem dX12_box_96 : decode cX12_box 96 = .ok (.iload_n 1, 1) := by decide +kernel
theorem dX12_box_97 : decode cX12_box 97 = .ok (.iaload, 1) := by decide +kernel
theorem dX12_box_98 : decode cX12_box 98 = .ok (.ireturn, 1) := by decide +kernel
theorem dX12_box_99 : decode cX12_box 99 = .ok (.aload_n 0, 1) := by decide +kernel
theorem dX12_box_100 : decode cX12_box 100 = .ok (.getfield 97, 3) := by decide +kernel
theorem dX12_box_103 : decode cX12_box 103 = .ok (.iload_n 1, 1) := by decide +kernel
theorem dX12_box_104 : decode cX12_box 104 = .ok (.baload, 1) := by decide +kernel
theorem dX12_box_105 : decode cX12_box 105 = .ok (.ifCond .eq 7, 3) := by decide +kernel
theorem dX12_box_108 : decode cX12_box 108 = .ok (.iconst 1, 1) := by decide +kernel
theorem dX12_box_109 : decode cX12_box 109 = .ok (.goto 4, 3) := by decide +kernel
theorem dX12_box_112 : decode cX12_box 112 = .ok (.iconst 0, 1) := by decide +kernel
theorem dX12_box_113 : decode cX12_box 113 = .ok (.ireturn, 1) := by decide +kernel
theorem dX12_box_114 : decode cX12_box 114 = .ok (.aload_n 0, 1) := by decide +kernel
theorem dX12_box_115 : decode cX12_box 115 = .ok (.getfield 100, 3) := by decide +kernel
theorem dX12_box_118 : decode cX12_box 118 = .ok (.iload_n 1, 1) := by decide +kernel
theorem dX12_box_119 : decode cX12_box 119 = .ok (.iaload, 1) := by decide +kernel
theorem dX12_box_120 : decode cX12_box 120 = .ok (.ireturn, 1) := by decide +kernel
theorem dX12_box_121 : decode cX12_box 121 = .ok (.aload_n 0, 1) := by decide +kernel
theorem dX12_box_122 : decode cX12_box 122 = .ok (.iconst 2, 1) := by decide +kernel
theorem dX12_box_123 : decode cX12_box 123 = .ok (.invokevirtual 436, 3) := by decide +kernel
theorem dX12_box_126 : decode cX12_box 126 = .ok (.ireturn, 1) := by decide +kernel
theorem dX12_pin_0 : decode cX12_pin 0 = .ok (.aload_n 0, 1) := by decide +kernel
theorem dX12_pin_1 : decode cX12_pin 1 = .ok (.iconst 0, 1) := by decide +kernel
theorem dX12_pin_2 : decode cX12_pin 2 = .ok (.putfield 139, 3) := by decide +kernel
theorem dX12_pin_5 : decode cX12_pin 5 = .ok (.aload_n 0, 1) := by decide +kernel
theorem dX12_pin_6 : decode cX12_pin 6 = .ok (.iload_n 1, 1) := by decide +kernel
theorem dX12_pin_7 : decode cX12_pin 7 = .ok (.invokevirtual 433, 3) := by decide +kernel
theorem dX12_pin_10 : decode cX12_pin 10 = .ok (.ifCond .eq 24, 3) := by decide +kernel
theorem dX12_pin_13 : decode cX12_pin 13 = .ok (.iload_n 2, 1) := by decide +kernel
theorem dX12_pin_14 : decode cX12_pin 14 = .ok (.invokestatic 439, 3) := by decide +kernel
theorem dX12_pin_17 : decode cX12_pin 17 = .ok (.ifCond .eq 17, 3) := by decide +kernel
theorem dX12_pin_20 : decode cX12_pin 20 = .ok (.aload_n 0, 1) := by decide +kernel
theorem dX12_pin_21 : decode cX12_pin 21 = .ok (.getfield 36, 3) := by decide +kernel
theorem dX12_pin_24 : decode cX12_pin 24 = .ok (.bipush 8, 2) := by decide +kernel
theorem dX12_pin_26 : decode cX12_pin 26 = .ok (.iload_n 1, 1) := by decide +kernel
theorem dX12_pin_27 : decode cX12_pin 27 = .ok (.imul, 1) := by decide +kernel
theorem dX12_pin_28 : decode cX12_pin 28 = .ok (.iload_n 2, 1) := by decide +kernel
theorem dX12_pin_29 : decode cX12_pin 29 = .ok (.iadd, 1) := by decide +kernel
theorem dX12_pin_30 : decode cX12_pin 30 = .ok (.iaload, 1) := by decide +kernel
theorem dX12_pin_31 : decode cX12_pin 31 = .ok (.goto 4, 3) := by decide +kernel
theorem dX12_pin_34 : decode cX12_pin 34 = .ok (.iconst (-1), 1) := by decide +kernel
theorem dX12_pin_35 : decode cX12_pin 35 = .ok (.ireturn, 1) := by decide +kernel
theorem dX12_heard_0 : decode cX12_heard 0 = .ok (.aload_n 0, 1) := by decide +kernel
theorem dX12_heard_1 : decode cX12_heard 1 = .ok (.iconst 0, 1) := by decide +kernel
theorem dX12_heard_2 : decode cX12_heard 2 = .ok (.putfield 139, 3) := by decide +kernel
theorem dX12_heard_5 : decode cX12_heard 5 = .ok (.aload_n 0, 1) := by decide +kernel
theorem dX12_heard_6 : decode cX12_heard 6 = .ok (.invokevirtual 347, 3) := by decide +kernel
theorem dX12_heard_9 : decode cX12_heard 9 = .ok (.aload_n 0, 1) := by decide +kernel
theorem dX12_heard_10 : decode cX12_heard 10 = .ok (.iload_n 1, 1) := by decide +kernel
theorem dX12_heard_11 : decode cX12_heard 11 = .ok (.invokevirtual 433, 3) := by decide +kernel
theorem dX12_heard_14 : decode cX12_heard 14 = .ok (.ifCond .eq 20, 3) := by decide +kernel
theorem dX12_heard_17 : decode cX12_heard 17 = .ok (.iload_n 2, 1) := by decide +kernel
theorem dX12_heard_18 : decode cX12_heard 18 = .ok (.invokestatic 439, 3) := by decide +kernel
theorem dX12_heard_21 : decode cX12_heard 21 = .ok (.ifCond .eq 13, 3) := by decide +kernel
theorem dX12_heard_24 : decode cX12_heard 24 = .ok (.aload_n 0, 1) := by decide +kernel
theorem dX12_heard_25 : decode cX12_heard 25 = .ok (.iconst 0, 1) := by decide +kernel
theorem dX12_heard_26 : decode cX12_heard 26 = .ok (.iload_n 1, 1) := by decide +kernel
theorem dX12_heard_27 : decode cX12_heard 27 = .ok (.iload_n 2, 1) := by decide +kernel
theorem dX12_heard_28 : decode cX12_heard 28 = .ok (.invokevirtual 381, 3) := by decide +kernel
theorem dX12_heard_31 : decode cX12_heard 31 = .ok (.goto 4, 3) := by decide +kernel
theorem dX12_heard_34 : decode cX12_heard 34 = .ok (.iconst (-1), 1) := by decide +kernel
theorem dX12_heard_35 : decode cX12_heard 35 = .ok (.ireturn, 1) := by decide +kernel
theorem dX12_guest_0 : decode cX12_guest 0 = .ok (.aload_n 0, 1) := by decide +kernel
theorem dX12_guest_1 : decode cX12_guest 1 = .ok (.iconst 0, 1) := by decide +kernel
theorem dX12_guest_2 : decode cX12_guest 2 = .ok (.putfield 139, 3) := by decide +kernel
theorem dX12_guest_5 : decode cX12_guest 5 = .ok (.aload_n 0, 1) := by decide +kernel
theorem dX12_guest_6 : decode cX12_guest 6 = .ok (.iload_n 1, 1) := by decide +kernel
theorem dX12_guest_7 : decode cX12_guest 7 = .ok (.invokevirtual 442, 3) := by decide +kernel
theorem dX12_guest_10 : decode cX12_guest 10 = .ok (.ifCond .ne 5, 3) := by decide +kernel
theorem dX12_guest_13 : decode cX12_guest 13 = .ok (.iconst (-1), 1) := by decide +kernel
theorem dX12_guest_14 : decode cX12_guest 14 = .ok (.ireturn, 1) := by decide +kernel
theorem dX12_guest_15 : decode cX12_guest 15 = .ok (.iload_n 2, 1) := by decide +kernel
theorem dX12_guest_16 : decode cX12_guest 16 = .ok (.ifCond .ne 12, 3) := by decide +kernel
theorem dX12_guest_19 : decode cX12_guest 19 = .ok (.aload_n 0, 1) := by decide +kernel
theorem dX12_guest_20 : decode cX12_guest 20 = .ok (.getfield 48, 3) := by decide +kernel
theorem dX12_guest_23 : decode cX12_guest 23 = .ok (.iload_n 1, 1) := by decide +kernel
theorem dX12_guest_24 : decode cX12_guest 24 = .ok (.iaload, 1) := by decide +kernel
theorem dX12_guest_25 : decode cX12_guest 25 = .ok (.goto 18, 3) := by decide +kernel
theorem dX12_guest_28 : decode cX12_guest 28 = .ok (.iload_n 2, 1) := by decide +kernel
theorem dX12_guest_29 : decode cX12_guest 29 = .ok (.iconst 1, 1) := by decide +kernel
theorem dX12_guest_30 : decode cX12_guest 30 = .ok (.if_icmp .ne 12, 3) := by decide +kernel
theorem dX12_guest_33 : decode cX12_guest 33 = .ok (.aload_n 0, 1) := by decide +kernel
theorem dX12_guest_34 : decode cX12_guest 34 = .ok (.getfield 51, 3) := by decide +kernel
theorem dX12_guest_37 : decode cX12_guest 37 = .ok (.iload_n 1, 1) := by decide +kernel
theorem dX12_guest_38 : decode cX12_guest 38 = .ok (.iaload, 1) := by decide +kernel
theorem dX12_guest_39 : decode cX12_guest 39 = .ok (.goto 4, 3) := by decide +kernel
theorem dX12_guest_42 : decode cX12_guest 42 = .ok (.iconst (-1), 1) := by decide +kernel
theorem dX12_guest_43 : decode cX12_guest 43 = .ok (.ireturn, 1) := by decide +kernel
theorem dX12_kin_0 : decode cX12_kin 0 = .ok (.aload_n 0, 1) := by decide +kernel
theorem dX12_kin_1 : decode cX12_kin 1 = .ok (.iconst 0, 1) := by decide +kernel
theorem dX12_kin_2 : decode cX12_kin 2 = .ok (.putfield 139, 3) := by decide +kernel
theorem dX12_kin_5 : decode cX12_kin 5 = .ok (.aload_n 0, 1) := by decide +kernel
theorem dX12_kin_6 : decode cX12_kin 6 = .ok (.iload_n 1, 1) := by decide +kernel
theorem dX12_kin_7 : decode cX12_kin 7 = .ok (.invokevirtual 433, 3) := by decide +kernel
theorem dX12_kin_10 : decode cX12_kin 10 = .ok (.ifCond .eq 24, 3) := by decide +kernel
theorem dX12_kin_13 : decode cX12_kin 13 = .ok (.aload_n 0, 1) := by decide +kernel
theorem dX12_kin_14 : decode cX12_kin 14 = .ok (.iload_n 2, 1) := by decide +kernel
theorem dX12_kin_15 : decode cX12_kin 15 = .ok (.invokevirtual 433, 3) := by decide +kernel
theorem dX12_kin_18 : decode cX12_kin 18 = .ok (.ifCond .eq 16, 3) := by decide +kernel
theorem dX12_kin_21 : decode cX12_kin 21 = .ok (.aload_n 0, 1) := by decide +kernel
theorem dX12_kin_22 : decode cX12_kin 22 = .ok (.getfield 42, 3) := by decide +kernel
theorem dX12_kin_25 : decode cX12_kin 25 = .ok (.iload_n 1, 1) := by decide +kernel
theorem dX12_kin_26 : decode cX12_kin 26 = .ok (.iaload, 1) := by decide +kernel
theorem dX12_kin_27 : decode cX12_kin 27 = .ok (.iload_n 2, 1) := by decide +kernel
theorem dX12_kin_28 : decode cX12_kin 28 = .ok (.ishr, 1) := by decide +kernel
theorem dX12_kin_29 : decode cX12_kin 29 = .ok (.iconst 1, 1) := by decide +kernel
theorem dX12_kin_30 : decode cX12_kin 30 = .ok (.iand, 1) := by decide +kernel
theorem dX12_kin_31 : decode cX12_kin 31 = .ok (.goto 4, 3) := by decide +kernel
theorem dX12_kin_34 : decode cX12_kin 34 = .ok (.iconst (-1), 1) := by decide +kernel
theorem dX12_kin_35 : decode cX12_kin 35 = .ok (.ireturn, 1) := by decide +kernel
theorem dX12_law_0 : decode cX12_law 0 = .ok (.aload_n 0, 1) := by decide +kernel
theorem dX12_law_1 : decode cX12_law 1 = .ok (.iconst 0, 1) := by decide +kernel
theorem dX12_law_2 : decode cX12_law 2 = .ok (.putfield 139, 3) := by decide +kernel
theorem dX12_law_5 : decode cX12_law 5 = .ok (.iload_n 1, 1) := by decide +kernel
theorem dX12_law_6 : decode cX12_law 6 = .ok (.iconst 0, 1) := by decide +kernel
theorem dX12_law_7 : decode cX12_law 7 = .ok (.iconst 2, 1) := by decide +kernel
theorem dX12_law_8 : decode cX12_law 8 = .ok (.invokestatic 184, 3) := by decide +kernel
theorem dX12_law_11 : decode cX12_law 11 = .ok (.ifCond .eq 20, 3) := by decide +kernel
theorem dX12_law_14 : decode cX12_law 14 = .ok (.aload_n 0, 1) := by decide +kernel
theorem dX12_law_15 : decode cX12_law 15 = .ok (.getfield 54, 3) := by decide +kernel
theorem dX12_law_18 : decode cX12_law 18 = .ok (.iload_n 1, 1) := by decide +kernel
theorem dX12_law_19 : decode cX12_law 19 = .ok (.baload, 1) := by decide +kernel
theorem dX12_law_20 : decode cX12_law 20 = .ok (.ifCond .eq 11, 3) := by decide +kernel
theorem dX12_law_23 : decode cX12_law 23 = .ok (.aload_n 0, 1) := by decide +kernel
theorem dX12_law_24 : decode cX12_law 24 = .ok (.iload_n 2, 1) := by decide +kernel
theorem dX12_law_25 : decode cX12_law 25 = .ok (.invokevirtual 433, 3) := by decide +kernel
theorem dX12_law_28 : decode cX12_law 28 = .ok (.ifCond .ne 7, 3) := by decide +kernel
theorem dX12_law_31 : decode cX12_law 31 = .ok (.ldc2_w 445, 3) := by decide +kernel
theorem dX12_law_34 : decode cX12_law 34 = .ok (.lreturn, 1) := by decide +kernel
theorem dX12_law_35 : decode cX12_law 35 = .ok (.aload_n 0, 1) := by decide +kernel
theorem dX12_law_36 : decode cX12_law 36 = .ok (.invokevirtual 347, 3) := by decide +kernel
theorem dX12_law_39 : decode cX12_law 39 = .ok (.aload_n 0, 1) := by decide +kernel
theorem dX12_law_40 : decode cX12_law 40 = .ok (.iconst 0, 1) := by decide +kernel
theorem dX12_law_41 : decode cX12_law 41 = .ok (.iload_n 2, 1) := by decide +kernel
theorem dX12_law_42 : decode cX12_law 42 = .ok (.invokevirtual 397, 3) := by decide +kernel
theorem dX12_law_45 : decode cX12_law 45 = .ok (.aload_n 0, 1) := by decide +kernel
theorem dX12_law_46 : decode cX12_law 46 = .ok (.iload_n 1, 1) := by decide +kernel
theorem dX12_law_47 : decode cX12_law 47 = .ok (.invokevirtual 394, 3) := by decide +kernel
theorem dX12_law_50 : decode cX12_law 50 = .ok (.lstore_n 3, 1) := by decide +kernel
theorem dX12_law_51 : decode cX12_law 51 = .ok (.aload_n 0, 1) := by decide +kernel
theorem dX12_law_52 : decode cX12_law 52 = .ok (.getfield 324, 3) := by decide +kernel
theorem dX12_law_55 : decode cX12_law 55 = .ok (.ifCond .eq 9, 3) := by decide +kernel
theorem dX12_law_58 : decode cX12_law 58 = .ok (.ldc2_w 445, 3) := by decide +kernel
theorem dX12_law_61 : decode cX12_law 61 = .ok (.goto 4, 3) := by decide +kernel
theorem dX12_law_64 : decode cX12_law 64 = .ok (.lload_n 3, 1) := by decide +kernel
theorem dX12_law_65 : decode cX12_law 65 = .ok (.lreturn, 1) := by decide +kernel
theorem dX12_wind_0 : decode cX12_wind 0 = .ok (.aload_n 0, 1) := by decide +kernel
theorem dX12_wind_1 : decode cX12_wind 1 = .ok (.iconst 0, 1) := by decide +kernel
theorem dX12_wind_2 : decode cX12_wind 2 = .ok (.putfield 139, 3) := by decide +kernel
theorem dX12_wind_5 : decode cX12_wind 5 = .ok (.aload_n 0, 1) := by decide +kernel
theorem dX12_wind_6 : decode cX12_wind 6 = .ok (.iload_n 1, 1) := by decide +kernel
theorem dX12_wind_7 : decode cX12_wind 7 = .ok (.invokevirtual 433, 3) := by decide +kernel
theorem dX12_wind_10 : decode cX12_wind 10 = .ok (.ifCond .eq 13, 3) := by decide +kernel
theorem dX12_wind_13 : decode cX12_wind 13 = .ok (.iload_n 2, 1) := by decide +kernel
theorem dX12_wind_14 : decode cX12_wind 14 = .ok (.iconst 1, 1) := by decide +kernel
theorem dX12_wind_15 : decode cX12_wind 15 = .ok (.bipush 99, 2) := by decide +kernel
theorem dX12_wind_17 : decode cX12_wind 17 = .ok (.invokestatic 184, 3) := by decide +kernel
theorem dX12_wind_20 : decode cX12_wind 20 = .ok (.ifCond .ne 5, 3) := by decide +kernel
theorem dX12_wind_23 : decode cX12_wind 23 = .ok (.iconst (-1), 1) := by decide +kernel
theorem dX12_wind_24 : decode cX12_wind 24 = .ok (.ireturn, 1) := by decide +kernel
theorem dX12_wind_25 : decode cX12_wind 25 = .ok (.aload_n 0, 1) := by decide +kernel
theorem dX12_wind_26 : decode cX12_wind 26 = .ok (.getfield 97, 3) := by decide +kernel
theorem dX12_wind_29 : decode cX12_wind 29 = .ok (.iload_n 1, 1) := by decide +kernel
theorem dX12_wind_30 : decode cX12_wind 30 = .ok (.baload, 1) := by decide +kernel
theorem dX12_wind_31 : decode cX12_wind 31 = .ok (.ifCond .ne 14, 3) := by decide +kernel
theorem dX12_wind_34 : decode cX12_wind 34 = .ok (.aload_n 0, 1) := by decide +kernel
theorem dX12_wind_35 : decode cX12_wind 35 = .ok (.getfield 85, 3) := by decide +kernel
theorem dX12_wind_38 : decode cX12_wind 38 = .ok (.iload_n 1, 1) := by decide +kernel
theorem dX12_wind_39 : decode cX12_wind 39 = .ok (.iaload, 1) := by decide +kernel
theorem dX12_wind_40 : decode cX12_wind 40 = .ok (.bipush 99, 2) := by decide +kernel
theorem dX12_wind_42 : decode cX12_wind 42 = .ok (.if_icmp .ne 6, 3) := by decide +kernel
theorem dX12_wind_45 : decode cX12_wind 45 = .ok (.bipush (-2), 2) := by decide +kernel
theorem dX12_wind_47 : decode cX12_wind 47 = .ok (.ireturn, 1) := by decide +kernel
theorem dX12_wind_48 : decode cX12_wind 48 = .ok (.aload_n 0, 1) := by decide +kernel
theorem dX12_wind_49 : decode cX12_wind 49 = .ok (.invokevirtual 447, 3) := by decide +kernel
theorem dX12_wind_52 : decode cX12_wind 52 = .ok (.aload_n 0, 1) := by decide +kernel
theorem dX12_wind_53 : decode cX12_wind 53 = .ok (.getfield 85, 3) := by decide +kernel
theorem dX12_wind_56 : decode cX12_wind 56 = .ok (.iload_n 1, 1) := by decide +kernel
theorem dX12_wind_57 : decode cX12_wind 57 = .ok (.aload_n 0, 1) := by decide +kernel
theorem dX12_wind_58 : decode cX12_wind 58 = .ok (.getfield 85, 3) := by decide +kernel
theorem dX12_wind_61 : decode cX12_wind 61 = .ok (.iload_n 1, 1) := by decide +kernel
theorem dX12_wind_62 : decode cX12_wind 62 = .ok (.iaload, 1) := by decide +kernel
theorem dX12_wind_63 : decode cX12_wind 63 = .ok (.iload_n 2, 1) := by decide +kernel
theorem dX12_wind_64 : decode cX12_wind 64 = .ok (.iadd, 1) := by decide +kernel
theorem dX12_wind_65 : decode cX12_wind 65 = .ok (.bipush 99, 2) := by decide +kernel
theorem dX12_wind_67 : decode cX12_wind 67 = .ok (.if_icmp .le 8, 3) := by decide +kernel
theorem dX12_wind_70 : decode cX12_wind 70 = .ok (.bipush 99, 2) := by decide +kernel
theorem dX12_wind_72 : decode cX12_wind 72 = .ok (.goto 11, 3) := by decide +kernel
theorem dX12_wind_75 : decode cX12_wind 75 = .ok (.aload_n 0, 1) := by decide +kernel
theorem dX12_wind_76 : decode cX12_wind 76 = .ok (.getfield 85, 3) := by decide +kernel
theorem dX12_wind_79 : decode cX12_wind 79 = .ok (.iload_n 1, 1) := by decide +kernel
theorem dX12_wind_80 : decode cX12_wind 80 = .ok (.iaload, 1) := by decide +kernel
theorem dX12_wind_81 : decode cX12_wind 81 = .ok (.iload_n 2, 1) := by decide +kernel
theorem dX12_wind_82 : decode cX12_wind 82 = .ok (.iadd, 1) := by decide +kernel
theorem dX12_wind_83 : decode cX12_wind 83 = .ok (.iastore, 1) := by decide +kernel
theorem dX12_wind_84 : decode cX12_wind 84 = .ok (.aload_n 0, 1) := by decide +kernel
theorem dX12_wind_85 : decode cX12_wind 85 = .ok (.getfield 85, 3) := by decide +kernel
theorem dX12_wind_88 : decode cX12_wind 88 = .ok (.iload_n 1, 1) := by decide +kernel
theorem dX12_wind_89 : decode cX12_wind 89 = .ok (.iaload, 1) := by decide +kernel
theorem dX12_wind_90 : decode cX12_wind 90 = .ok (.ireturn, 1) := by decide +kernel
theorem dX12_steal_0 : decode cX12_steal 0 = .ok (.aload_n 0, 1) := by decide +kernel
theorem dX12_steal_1 : decode cX12_steal 1 = .ok (.iconst 0, 1) := by decide +kernel
theorem dX12_steal_2 : decode cX12_steal 2 = .ok (.putfield 139, 3) := by decide +kernel
theorem dX12_steal_5 : decode cX12_steal 5 = .ok (.aload_n 0, 1) := by decide +kernel
theorem dX12_steal_6 : decode cX12_steal 6 = .ok (.iload_n 1, 1) := by decide +kernel
theorem dX12_steal_7 : decode cX12_steal 7 = .ok (.invokevirtual 433, 3) := by decide +kernel
theorem dX12_steal_10 : decode cX12_steal 10 = .ok (.ifCond .eq 13, 3) := by decide +kernel
theorem dX12_steal_13 : decode cX12_steal 13 = .ok (.aload_n 0, 1) := by decide +kernel
theorem dX12_steal_14 : decode cX12_steal 14 = .ok (.getfield 97, 3) := by decide +kernel
theorem dX12_steal_17 : decode cX12_steal 17 = .ok (.iload_n 1, 1) := by decide +kernel
theorem dX12_steal_18 : decode cX12_steal 18 = .ok (.baload, 1) := by decide +kernel
theorem dX12_steal_19 : decode cX12_steal 19 = .ok (.iload_n 2, 1) := by decide +kernel
theorem dX12_steal_20 : decode cX12_steal 20 = .ok (.if_icmp .ne 5, 3) := by decide +kernel
theorem dX12_steal_23 : decode cX12_steal 23 = .ok (.iconst 0, 1) := by decide +kernel
theorem dX12_steal_24 : decode cX12_steal 24 = .ok (.ireturn, 1) := by decide +kernel
theorem dX12_steal_25 : decode cX12_steal 25 = .ok (.aload_n 0, 1) := by decide +kernel
theorem dX12_steal_26 : decode cX12_steal 26 = .ok (.invokevirtual 447, 3) := by decide +kernel
theorem dX12_steal_29 : decode cX12_steal 29 = .ok (.aload_n 0, 1) := by decide +kernel
theorem dX12_steal_30 : decode cX12_steal 30 = .ok (.getfield 97, 3) := by decide +kernel
theorem dX12_steal_33 : decode cX12_steal 33 = .ok (.iload_n 1, 1) := by decide +kernel
theorem dX12_steal_34 : decode cX12_steal 34 = .ok (.iload_n 2, 1) := by decide +kernel
theorem dX12_steal_35 : decode cX12_steal 35 = .ok (.bastore, 1) := by decide +kernel
theorem dX12_steal_36 : decode cX12_steal 36 = .ok (.iconst 1, 1) := by decide +kernel
theorem dX12_steal_37 : decode cX12_steal 37 = .ok (.ireturn, 1) := by decide +kernel
theorem dX12_tooth_0 : decode cX12_tooth 0 = .ok (.aload_n 0, 1) := by decide +kernel
theorem dX12_tooth_1 : decode cX12_tooth 1 = .ok (.iconst 0, 1) := by decide +kernel
theorem dX12_tooth_2 : decode cX12_tooth 2 = .ok (.putfield 139, 3) := by decide +kernel
theorem dX12_tooth_5 : decode cX12_tooth 5 = .ok (.aload_n 0, 1) := by decide +kernel
theorem dX12_tooth_6 : decode cX12_tooth 6 = .ok (.iload_n 1, 1) := by decide +kernel
theorem dX12_tooth_7 : decode cX12_tooth 7 = .ok (.invokevirtual 433, 3) := by decide +kernel
theorem dX12_tooth_10 : decode cX12_tooth 10 = .ok (.ifCond .eq 24, 3) := by decide +kernel
theorem dX12_tooth_13 : decode cX12_tooth 13 = .ok (.iload_n 2, 1) := by decide +kernel
theorem dX12_tooth_14 : decode cX12_tooth 14 = .ok (.invokestatic 450, 3) := by decide +kernel
theorem dX12_tooth_17 : decode cX12_tooth 17 = .ok (.ifCond .eq 17, 3) := by decide +kernel
theorem dX12_tooth_20 : decode cX12_tooth 20 = .ok (.aload_n 0, 1) := by decide +kernel
theorem dX12_tooth_21 : decode cX12_tooth 21 = .ok (.getfield 100, 3) := by decide +kernel
theorem dX12_tooth_24 : decode cX12_tooth 24 = .ok (.iload_n 1, 1) := by decide +kernel
theorem dX12_tooth_25 : decode cX12_tooth 25 = .ok (.iaload, 1) := by decide +kernel
theorem dX12_tooth_26 : decode cX12_tooth 26 = .ok (.iload_n 2, 1) := by decide +kernel
theorem dX12_tooth_27 : decode cX12_tooth 27 = .ok (.invokestatic 250, 3) := by decide +kernel
theorem dX12_tooth_30 : decode cX12_tooth 30 = .ok (.iload_n 3, 1) := by decide +kernel
theorem dX12_tooth_31 : decode cX12_tooth 31 = .ok (.if_icmp .ne 5, 3) := by decide +kernel
theorem dX12_tooth_34 : decode cX12_tooth 34 = .ok (.iconst 0, 1) := by decide +kernel
theorem dX12_tooth_35 : decode cX12_tooth 35 = .ok (.ireturn, 1) := by decide +kernel
theorem dX12_tooth_36 : decode cX12_tooth 36 = .ok (.aload_n 0, 1) := by decide +kernel
theorem dX12_tooth_37 : decode cX12_tooth 37 = .ok (.invokevirtual 447, 3) := by decide +kernel
theorem dX12_tooth_40 : decode cX12_tooth 40 = .ok (.aload_n 0, 1) := by decide +kernel
theorem dX12_tooth_41 : decode cX12_tooth 41 = .ok (.getfield 100, 3) := by decide +kernel
theorem dX12_tooth_44 : decode cX12_tooth 44 = .ok (.iload_n 1, 1) := by decide +kernel
theorem dX12_tooth_45 : decode cX12_tooth 45 = .ok (.dup2, 1) := by decide +kernel
theorem dX12_tooth_46 : decode cX12_tooth 46 = .ok (.iaload, 1) := by decide +kernel
theorem dX12_tooth_47 : decode cX12_tooth 47 = .ok (.iconst 1, 1) := by decide +kernel
theorem dX12_tooth_48 : decode cX12_tooth 48 = .ok (.iload_n 2, 1) := by decide +kernel
theorem dX12_tooth_49 : decode cX12_tooth 49 = .ok (.ishl, 1) := by decide +kernel
theorem dX12_tooth_50 : decode cX12_tooth 50 = .ok (.ixor, 1) := by decide +kernel
theorem dX12_tooth_51 : decode cX12_tooth 51 = .ok (.iastore, 1) := by decide +kernel
theorem dX12_tooth_52 : decode cX12_tooth 52 = .ok (.iconst 1, 1) := by decide +kernel
theorem dX12_tooth_53 : decode cX12_tooth 53 = .ok (.ireturn, 1) := by decide +kernel
theorem dX12_years_0 : decode cX12_years 0 = .ok (.aload_n 0, 1) := by decide +kernel
theorem dX12_years_1 : decode cX12_years 1 = .ok (.iconst 0, 1) := by decide +kernel
theorem dX12_years_2 : decode cX12_years 2 = .ok (.putfield 139, 3) := by decide +kernel
theorem dX12_years_5 : decode cX12_years 5 = .ok (.iload_n 1, 1) := by decide +kernel
theorem dX12_years_6 : decode cX12_years 6 = .ok (.iconst 0, 1) := by decide +kernel
theorem dX12_years_7 : decode cX12_years 7 = .ok (.bipush 99, 2) := by decide +kernel
theorem dX12_years_9 : decode cX12_years 9 = .ok (.invokestatic 184, 3) := by decide +kernel
theorem dX12_years_12 : decode cX12_years 12 = .ok (.ifCond .eq 17, 3) := by decide +kernel
theorem dX12_years_15 : decode cX12_years 15 = .ok (.aload_n 0, 1) := by decide +kernel
theorem dX12_years_16 : decode cX12_years 16 = .ok (.getfield 103, 3) := by decide +kernel
theorem dX12_years_19 : decode cX12_years 19 = .ok (.iconst 0, 1) := by decide +kernel
theorem dX12_years_20 : decode cX12_years 20 = .ok (.iaload, 1) := by decide +kernel
theorem dX12_years_21 : decode cX12_years 21 = .ok (.iload_n 1, 1) := by decide +kernel
theorem dX12_years_22 : decode cX12_years 22 = .ok (.iadd, 1) := by decide +kernel
theorem dX12_years_23 : decode cX12_years 23 = .ok (.sipush 9900, 3) := by decide +kernel
theorem dX12_years_26 : decode cX12_years 26 = .ok (.if_icmp .le 5, 3) := by decide +kernel
theorem dX12_years_29 : decode cX12_years 29 = .ok (.iconst (-1), 1) := by decide +kernel
theorem dX12_years_30 : decode cX12_years 30 = .ok (.ireturn, 1) := by decide +kernel
theorem dX12_years_31 : decode cX12_years 31 = .ok (.aload_n 0, 1) := by decide +kernel
theorem dX12_years_32 : decode cX12_years 32 = .ok (.invokevirtual 347, 3) := by decide +kernel
theorem dX12_years_35 : decode cX12_years 35 = .ok (.aload_n 0, 1) := by decide +kernel
theorem dX12_years_36 : decode cX12_years 36 = .ok (.iconst 1, 1) := by decide +kernel
theorem dX12_years_37 : decode cX12_years 37 = .ok (.putfield 359, 3) := by decide +kernel
theorem dX12_years_40 : decode cX12_years 40 = .ok (.iconst 0, 1) := by decide +kernel
theorem dX12_years_41 : decode cX12_years 41 = .ok (.istore_n 2, 1) := by decide +kernel
theorem dX12_years_42 : decode cX12_years 42 = .ok (.iload_n 2, 1) := by decide +kernel
theorem dX12_years_43 : decode cX12_years 43 = .ok (.iload_n 1, 1) := by decide +kernel
theorem dX12_years_44 : decode cX12_years 44 = .ok (.if_icmp .ge 14, 3) := by decide +kernel
theorem dX12_years_47 : decode cX12_years 47 = .ok (.aload_n 0, 1) := by decide +kernel
theorem dX12_years_48 : decode cX12_years 48 = .ok (.iconst 0, 1) := by decide +kernel
theorem dX12_years_49 : decode cX12_years 49 = .ok (.invokevirtual 430, 3) := by decide +kernel
theorem dX12_years_52 : decode cX12_years 52 = .ok (.iinc 2 1, 3) := by decide +kernel
theorem dX12_years_55 : decode cX12_years 55 = .ok (.goto (-13), 3) := by decide +kernel
theorem dX12_years_58 : decode cX12_years 58 = .ok (.aload_n 0, 1) := by decide +kernel
theorem dX12_years_59 : decode cX12_years 59 = .ok (.iconst 0, 1) := by decide +kernel
theorem dX12_years_60 : decode cX12_years 60 = .ok (.putfield 359, 3) := by decide +kernel
theorem dX12_years_63 : decode cX12_years 63 = .ok (.aload_n 0, 1) := by decide +kernel
theorem dX12_years_64 : decode cX12_years 64 = .ok (.iload_n 1, 1) := by decide +kernel
theorem dX12_years_65 : decode cX12_years 65 = .ok (.ifCond .le 7, 3) := by decide +kernel
theorem dX12_years_68 : decode cX12_years 68 = .ok (.iconst 0, 1) := by decide +kernel
theorem dX12_years_69 : decode cX12_years 69 = .ok (.goto 7, 3) := by decide +kernel
theorem dX12_years_72 : decode cX12_years 72 = .ok (.aload_n 0, 1) := by decide +kernel
theorem dX12_years_73 : decode cX12_years 73 = .ok (.getfield 353, 3) := by decide +kernel
theorem dX12_years_76 : decode cX12_years 76 = .ok (.putfield 353, 3) := by decide +kernel
theorem dX12_years_79 : decode cX12_years 79 = .ok (.aload_n 0, 1) := by decide +kernel
theorem dX12_years_80 : decode cX12_years 80 = .ok (.getfield 103, 3) := by decide +kernel
theorem dX12_years_83 : decode cX12_years 83 = .ok (.iconst 0, 1) := by decide +kernel
theorem dX12_years_84 : decode cX12_years 84 = .ok (.iaload, 1) := by decide +kernel
theorem dX12_years_85 : decode cX12_years 85 = .ok (.ireturn, 1) := by decide +kernel
theorem dX12_ahead_0 : decode cX12_ahead 0 = .ok (.aload_n 0, 1) := by decide +kernel
theorem dX12_ahead_1 : decode cX12_ahead 1 = .ok (.iconst 0, 1) := by decide +kernel
theorem dX12_ahead_2 : decode cX12_ahead 2 = .ok (.putfield 139, 3) := by decide +kernel
theorem dX12_ahead_5 : decode cX12_ahead 5 = .ok (.aload_n 0, 1) := by decide +kernel
theorem dX12_ahead_6 : decode cX12_ahead 6 = .ok (.iload_n 1, 1) := by decide +kernel
theorem dX12_ahead_7 : decode cX12_ahead 7 = .ok (.invokevirtual 433, 3) := by decide +kernel
theorem dX12_ahead_10 : decode cX12_ahead 10 = .ok (.ifCond .eq 22, 3) := by decide +kernel
theorem dX12_ahead_13 : decode cX12_ahead 13 = .ok (.iload_n 2, 1) := by decide +kernel
theorem dX12_ahead_14 : decode cX12_ahead 14 = .ok (.iconst 0, 1) := by decide +kernel
theorem dX12_ahead_15 : decode cX12_ahead 15 = .ok (.bipush 99, 2) := by decide +kernel
theorem dX12_ahead_17 : decode cX12_ahead 17 = .ok (.invokestatic 184, 3) := by decide +kernel
theorem dX12_ahead_20 : decode cX12_ahead 20 = .ok (.ifCond .eq 12, 3) := by decide +kernel
theorem dX12_ahead_23 : decode cX12_ahead 23 = .ok (.iload_n 3, 1) := by decide +kernel
theorem dX12_ahead_24 : decode cX12_ahead 24 = .ok (.iconst 0, 1) := by decide +kernel
theorem dX12_ahead_25 : decode cX12_ahead 25 = .ok (.iconst 3, 1) := by decide +kernel
theorem dX12_ahead_26 : decode cX12_ahead 26 = .ok (.invokestatic 184, 3) := by decide +kernel
theorem dX12_ahead_29 : decode cX12_ahead 29 = .ok (.ifCond .ne 5, 3) := by decide +kernel
theorem dX12_ahead_32 : decode cX12_ahead 32 = .ok (.iconst (-1), 1) := by decide +kernel
theorem dX12_ahead_33 : decode cX12_ahead 33 = .ok (.ireturn, 1) := by decide +kernel
theorem dX12_ahead_34 : decode cX12_ahead 34 = .ok (.aload_n 0, 1) := by decide +kernel
theorem dX12_ahead_35 : decode cX12_ahead 35 = .ok (.invokevirtual 453, 3) := by decide +kernel
theorem dX12_ahead_38 : decode cX12_ahead 38 = .ok (.aload_n 0, 1) := by decide +kernel
theorem dX12_ahead_39 : decode cX12_ahead 39 = .ok (.iload_n 2, 1) := by decide +kernel
theorem dX12_ahead_40 : decode cX12_ahead 40 = .ok (.invokevirtual 456, 3) := by decide +kernel
theorem dX12_ahead_43 : decode cX12_ahead 43 = .ok (.iload_n 3, 1) := by decide +kernel
theorem dX12_ahead_44 : decode cX12_ahead 44 = .ok (.tableswitch 65 0 2 #[28, 38, 48], 28) := by decide +kernel
theorem dX12_ahead_72 : decode cX12_ahead 72 = .ok (.aload_n 0, 1) := by decide +kernel
theorem dX12_ahead_73 : decode cX12_ahead 73 = .ok (.getfield 85, 3) := by decide +kernel
theorem dX12_ahead_76 : decode cX12_ahead 76 = .ok (.bipush 6, 2) := by decide +kernel
theorem dX12_ahead_78 : decode cX12_ahead 78 = .ok (.iload_n 1, 1) := by decide +kernel
theorem dX12_ahead_79 : decode cX12_ahead 79 = .ok (.iadd, 1) := by decide +kernel
theorem dX12_ahead_80 : decode cX12_ahead 80 = .ok (.iaload, 1) := by decide +kernel
theorem dX12_ahead_81 : decode cX12_ahead 81 = .ok (.ireturn, 1) := by decide +kernel
theorem dX12_ahead_82 : decode cX12_ahead 82 = .ok (.aload_n 0, 1) := by decide +kernel
theorem dX12_ahead_83 : decode cX12_ahead 83 = .ok (.getfield 88, 3) := by decide +kernel
theorem dX12_ahead_86 : decode cX12_ahead 86 = .ok (.bipush 6, 2) := by decide +kernel
theorem dX12_ahead_88 : decode cX12_ahead 88 = .ok (.iload_n 1, 1) := by decide +kernel
theorem dX12_ahead_89 : decode cX12_ahead 89 = .ok (.iadd, 1) := by decide +kernel
theorem dX12_ahead_90 : decode cX12_ahead 90 = .ok (.iaload, 1) := by decide +kernel
theorem dX12_ahead_91 : decode cX12_ahead 91 = .ok (.ireturn, 1) := by decide +kernel
theorem dX12_ahead_92 : decode cX12_ahead 92 = .ok (.aload_n 0, 1) := by decide +kernel
theorem dX12_ahead_93 : decode cX12_ahead 93 = .ok (.getfield 94, 3) := by decide +kernel
theorem dX12_ahead_96 : decode cX12_ahead 96 = .ok (.bipush 6, 2) := by decide +kernel
theorem dX12_ahead_98 : decode cX12_ahead 98 = .ok (.iload_n 1, 1) := by decide +kernel
theorem dX12_ahead_99 : decode cX12_ahead 99 = .ok (.iadd, 1) := by decide +kernel
theorem dX12_ahead_100 : decode cX12_ahead 100 = .ok (.iaload, 1) := by decide +kernel
theorem dX12_ahead_101 : decode cX12_ahead 101 = .ok (.aload_n 0, 1) := by decide +kernel
theorem dX12_ahead_102 : decode cX12_ahead 102 = .ok (.getfield 94, 3) := by decide +kernel
theorem dX12_ahead_105 : decode cX12_ahead 105 = .ok (.iload_n 1, 1) := by decide +kernel
theorem dX12_ahead_106 : decode cX12_ahead 106 = .ok (.iaload, 1) := by decide +kernel
theorem dX12_ahead_107 : decode cX12_ahead 107 = .ok (.isub, 1) := by decide +kernel
theorem dX12_ahead_108 : decode cX12_ahead 108 = .ok (.ireturn, 1) := by decide +kernel
theorem dX12_ahead_109 : decode cX12_ahead 109 = .ok (.aload_n 0, 1) := by decide +kernel
theorem dX12_ahead_110 : decode cX12_ahead 110 = .ok (.getfield 91, 3) := by decide +kernel
theorem dX12_ahead_113 : decode cX12_ahead 113 = .ok (.bipush 6, 2) := by decide +kernel
theorem dX12_ahead_115 : decode cX12_ahead 115 = .ok (.iload_n 1, 1) := by decide +kernel
theorem dX12_ahead_116 : decode cX12_ahead 116 = .ok (.iadd, 1) := by decide +kernel
theorem dX12_ahead_117 : decode cX12_ahead 117 = .ok (.iaload, 1) := by decide +kernel
theorem dX12_ahead_118 : decode cX12_ahead 118 = .ok (.aload_n 0, 1) := by decide +kernel
theorem dX12_ahead_119 : decode cX12_ahead 119 = .ok (.getfield 91, 3) := by decide +kernel
theorem dX12_ahead_122 : decode cX12_ahead 122 = .ok (.iload_n 1, 1) := by decide +kernel
theorem dX12_ahead_123 : decode cX12_ahead 123 = .ok (.iaload, 1) := by decide +kernel
theorem dX12_ahead_124 : decode cX12_ahead 124 = .ok (.isub, 1) := by decide +kernel
theorem dX12_ahead_125 : decode cX12_ahead 125 = .ok (.ireturn, 1) := by decide +kernel
theorem dX12_alikeBy_0 : decode cX12_alikeBy 0 = .ok (.iconst 0, 1) := by decide +kernel
theorem dX12_alikeBy_1 : decode cX12_alikeBy 1 = .ok (.istore 4, 2) := by decide +kernel
theorem dX12_alikeBy_3 : decode cX12_alikeBy 3 = .ok (.iconst 0, 1) := by decide +kernel
theorem dX12_alikeBy_4 : decode cX12_alikeBy 4 = .ok (.istore 5, 2) := by decide +kernel
theorem dX12_alikeBy_6 : decode cX12_alikeBy 6 = .ok (.iload 5, 2) := by decide +kernel
theorem dX12_alikeBy_8 : decode cX12_alikeBy 8 = .ok (.bipush 8, 2) := by decide +kernel
theorem dX12_alikeBy_10 : decode cX12_alikeBy 10 = .ok (.if_icmp .ge 52, 3) := by decide +kernel
theorem dX12_alikeBy_13 : decode cX12_alikeBy 13 = .ok (.aload_n 0, 1) := by decide +kernel
theorem dX12_alikeBy_14 : decode cX12_alikeBy 14 = .ok (.iconst 0, 1) := by decide +kernel
theorem dX12_alikeBy_15 : decode cX12_alikeBy 15 = .ok (.iload_n 1, 1) := by decide +kernel
theorem dX12_alikeBy_16 : decode cX12_alikeBy 16 = .ok (.iload 5, 2) := by decide +kernel
theorem dX12_alikeBy_18 : decode cX12_alikeBy 18 = .ok (.invokevirtual 381, 3) := by decide +kernel
theorem dX12_alikeBy_21 : decode cX12_alikeBy 21 = .ok (.istore 6, 2) := by decide +kernel
theorem dX12_alikeBy_23 : decode cX12_alikeBy 23 = .ok (.iload 4, 2) := by decide +kernel
theorem dX12_alikeBy_25 : decode cX12_alikeBy 25 = .ok (.iload 6, 2) := by decide +kernel
theorem dX12_alikeBy_27 : decode cX12_alikeBy 27 = .ok (.ifCond .le 25, 3) := by decide +kernel
theorem dX12_alikeBy_30 : decode cX12_alikeBy 30 = .ok (.iload 6, 2) := by decide +kernel
theorem dX12_alikeBy_32 : decode cX12_alikeBy 32 = .ok (.aload_n 0, 1) := by decide +kernel
theorem dX12_alikeBy_33 : decode cX12_alikeBy 33 = .ok (.iconst 0, 1) := by decide +kernel
theorem dX12_alikeBy_34 : decode cX12_alikeBy 34 = .ok (.iload_n 2, 1) := by decide +kernel
theorem dX12_alikeBy_35 : decode cX12_alikeBy 35 = .ok (.iload 5, 2) := by decide +kernel
theorem dX12_alikeBy_37 : decode cX12_alikeBy 37 = .ok (.iload_n 3, 1) := by decide +kernel
theorem dX12_alikeBy_38 : decode cX12_alikeBy 38 = .ok (.iadd, 1) := by decide +kernel
theorem dX12_alikeBy_39 : decode cX12_alikeBy 39 = .ok (.bipush 8, 2) := by decide +kernel
theorem dX12_alikeBy_41 : decode cX12_alikeBy 41 = .ok (.irem, 1) := by decide +kernel
theorem dX12_alikeBy_42 : decode cX12_alikeBy 42 = .ok (.invokevirtual 381, 3) := by decide +kernel
theorem dX12_alikeBy_45 : decode cX12_alikeBy 45 = .ok (.if_icmp .ne 7, 3) := by decide +kernel
theorem dX12_alikeBy_48 : decode cX12_alikeBy 48 = .ok (.iconst 1, 1) := by decide +kernel
theorem dX12_alikeBy_49 : decode cX12_alikeBy 49 = .ok (.goto 4, 3) := by decide +kernel
theorem dX12_alikeBy_52 : decode cX12_alikeBy 52 = .ok (.iconst 0, 1) := by decide +kernel
theorem dX12_alikeBy_53 : decode cX12_alikeBy 53 = .ok (.iadd, 1) := by decide +kernel
theorem dX12_alikeBy_54 : decode cX12_alikeBy 54 = .ok (.istore 4, 2) := by decide +kernel
theorem dX12_alikeBy_56 : decode cX12_alikeBy 56 = .ok (.iinc 5 1, 3) := by decide +kernel
theorem dX12_alikeBy_59 : decode cX12_alikeBy 59 = .ok (.goto (-53), 3) := by decide +kernel
theorem dX12_alikeBy_62 : decode cX12_alikeBy 62 = .ok (.iload 4, 2) := by decide +kernel
theorem dX12_alikeBy_64 : decode cX12_alikeBy 64 = .ok (.ireturn, 1) := by decide +kernel
theorem dX12_alike_0 : decode cX12_alike 0 = .ok (.aload_n 0, 1) := by decide +kernel
theorem dX12_alike_1 : decode cX12_alike 1 = .ok (.iconst 0, 1) := by decide +kernel
theorem dX12_alike_2 : decode cX12_alike 2 = .ok (.putfield 139, 3) := by decide +kernel
theorem dX12_alike_5 : decode cX12_alike 5 = .ok (.aload_n 0, 1) := by decide +kernel
theorem dX12_alike_6 : decode cX12_alike 6 = .ok (.invokevirtual 347, 3) := by decide +kernel
theorem dX12_alike_9 : decode cX12_alike 9 = .ok (.aload_n 0, 1) := by decide +kernel
theorem dX12_alike_10 : decode cX12_alike 10 = .ok (.iload_n 1, 1) := by decide +kernel
theorem dX12_alike_11 : decode cX12_alike 11 = .ok (.invokevirtual 433, 3) := by decide +kernel
theorem dX12_alike_14 : decode cX12_alike 14 = .ok (.ifCond .eq 28, 3) := by decide +kernel
theorem dX12_alike_17 : decode cX12_alike 17 = .ok (.aload_n 0, 1) := by decide +kernel
theorem dX12_alike_18 : decode cX12_alike 18 = .ok (.iload_n 2, 1) := by decide +kernel
theorem dX12_alike_19 : decode cX12_alike 19 = .ok (.invokevirtual 433, 3) := by decide +kernel
theorem dX12_alike_22 : decode cX12_alike 22 = .ok (.ifCond .eq 20, 3) := by decide +kernel
theorem dX12_alike_25 : decode cX12_alike 25 = .ok (.iload_n 3, 1) := by decide +kernel
theorem dX12_alike_26 : decode cX12_alike 26 = .ok (.invokestatic 439, 3) := by decide +kernel
theorem dX12_alike_29 : decode cX12_alike 29 = .ok (.ifCond .eq 13, 3) := by decide +kernel
theorem dX12_alike_32 : decode cX12_alike 32 = .ok (.aload_n 0, 1) := by decide +kernel
theorem dX12_alike_33 : decode cX12_alike 33 = .ok (.iload_n 1, 1) := by decide +kernel
theorem dX12_alike_34 : decode cX12_alike 34 = .ok (.iload_n 2, 1) := by decide +kernel
theorem dX12_alike_35 : decode cX12_alike 35 = .ok (.iload_n 3, 1) := by decide +kernel
theorem dX12_alike_36 : decode cX12_alike 36 = .ok (.invokevirtual 459, 3) := by decide +kernel
theorem dX12_alike_39 : decode cX12_alike 39 = .ok (.goto 4, 3) := by decide +kernel
theorem dX12_alike_42 : decode cX12_alike 42 = .ok (.iconst (-1), 1) := by decide +kernel
theorem dX12_alike_43 : decode cX12_alike 43 = .ok (.ireturn, 1) := by decide +kernel
theorem dX12_like_0 : decode cX12_like 0 = .ok (.aload_n 0, 1) := by decide +kernel
theorem dX12_like_1 : decode cX12_like 1 = .ok (.iconst 0, 1) := by decide +kernel
theorem dX12_like_2 : decode cX12_like 2 = .ok (.putfield 139, 3) := by decide +kernel
theorem dX12_like_5 : decode cX12_like 5 = .ok (.aload_n 0, 1) := by decide +kernel
theorem dX12_like_6 : decode cX12_like 6 = .ok (.iload_n 1, 1) := by decide +kernel
theorem dX12_like_7 : decode cX12_like 7 = .ok (.invokevirtual 433, 3) := by decide +kernel
theorem dX12_like_10 : decode cX12_like 10 = .ok (.ifCond .eq 20, 3) := by decide +kernel
theorem dX12_like_13 : decode cX12_like 13 = .ok (.aload_n 0, 1) := by decide +kernel
theorem dX12_like_14 : decode cX12_like 14 = .ok (.iload_n 2, 1) := by decide +kernel
theorem dX12_like_15 : decode cX12_like 15 = .ok (.invokevirtual 433, 3) := by decide +kernel
theorem dX12_like_18 : decode cX12_like 18 = .ok (.ifCond .eq 12, 3) := by decide +kernel
theorem dX12_like_21 : decode cX12_like 21 = .ok (.iload_n 3, 1) := by decide +kernel
theorem dX12_like_22 : decode cX12_like 22 = .ok (.iconst 0, 1) := by decide +kernel
theorem dX12_like_23 : decode cX12_like 23 = .ok (.iconst 1, 1) := by decide +kernel
theorem dX12_like_24 : decode cX12_like 24 = .ok (.invokestatic 184, 3) := by decide +kernel
theorem dX12_like_27 : decode cX12_like 27 = .ok (.ifCond .ne 5, 3) := by decide +kernel
theorem dX12_like_30 : decode cX12_like 30 = .ok (.iconst (-1), 1) := by decide +kernel
theorem dX12_like_31 : decode cX12_like 31 = .ok (.ireturn, 1) := by decide +kernel
theorem dX12_like_32 : decode cX12_like 32 = .ok (.aload_n 0, 1) := by decide +kernel
theorem dX12_like_33 : decode cX12_like 33 = .ok (.invokevirtual 347, 3) := by decide +kernel
theorem dX12_like_36 : decode cX12_like 36 = .ok (.iconst 0, 1) := by decide +kernel
theorem dX12_like_37 : decode cX12_like 37 = .ok (.istore 4, 2) := by decide +kernel
theorem dX12_like_39 : decode cX12_like 39 = .ok (.iconst 1, 1) := by decide +kernel
theorem dX12_like_40 : decode cX12_like 40 = .ok (.istore 5, 2) := by decide +kernel
theorem dX12_like_42 : decode cX12_like 42 = .ok (.iload 5, 2) := by decide +kernel
theorem dX12_like_44 : decode cX12_like 44 = .ok (.bipush 8, 2) := by decide +kernel
theorem dX12_like_46 : decode cX12_like 46 = .ok (.if_icmp .ge 37, 3) := by decide +kernel
theorem dX12_like_49 : decode cX12_like 49 = .ok (.aload_n 0, 1) := by decide +kernel
theorem dX12_like_50 : decode cX12_like 50 = .ok (.iload_n 1, 1) := by decide +kernel
theorem dX12_like_51 : decode cX12_like 51 = .ok (.iload_n 2, 1) := by decide +kernel
theorem dX12_like_52 : decode cX12_like 52 = .ok (.iload 5, 2) := by decide +kernel
theorem dX12_like_54 : decode cX12_like 54 = .ok (.invokevirtual 459, 3) := by decide +kernel
theorem dX12_like_57 : decode cX12_like 57 = .ok (.aload_n 0, 1) := by decide +kernel
theorem dX12_like_58 : decode cX12_like 58 = .ok (.iload_n 1, 1) := by decide +kernel
theorem dX12_like_59 : decode cX12_like 59 = .ok (.iload_n 2, 1) := by decide +kernel
theorem dX12_like_60 : decode cX12_like 60 = .ok (.iload 4, 2) := by decide +kernel
theorem dX12_like_62 : decode cX12_like 62 = .ok (.invokevirtual 459, 3) := by decide +kernel
theorem dX12_like_65 : decode cX12_like 65 = .ok (.if_icmp .le 8, 3) := by decide +kernel
theorem dX12_like_68 : decode cX12_like 68 = .ok (.iload 5, 2) := by decide +kernel
theorem dX12_like_70 : decode cX12_like 70 = .ok (.goto 5, 3) := by decide +kernel
theorem dX12_like_73 : decode cX12_like 73 = .ok (.iload 4, 2) := by decide +kernel
theorem dX12_like_75 : decode cX12_like 75 = .ok (.istore 4, 2) := by decide +kernel
theorem dX12_like_77 : decode cX12_like 77 = .ok (.iinc 5 1, 3) := by decide +kernel
theorem dX12_like_80 : decode cX12_like 80 = .ok (.goto (-38), 3) := by decide +kernel
theorem dX12_like_83 : decode cX12_like 83 = .ok (.iload_n 3, 1) := by decide +kernel
theorem dX12_like_84 : decode cX12_like 84 = .ok (.ifCond .ne 8, 3) := by decide +kernel
theorem dX12_like_87 : decode cX12_like 87 = .ok (.iload 4, 2) := by decide +kernel
theorem dX12_like_89 : decode cX12_like 89 = .ok (.goto 11, 3) := by decide +kernel
theorem dX12_like_92 : decode cX12_like 92 = .ok (.aload_n 0, 1) := by decide +kernel
theorem dX12_like_93 : decode cX12_like 93 = .ok (.iload_n 1, 1) := by decide +kernel
theorem dX12_like_94 : decode cX12_like 94 = .ok (.iload_n 2, 1) := by decide +kernel
theorem dX12_like_95 : decode cX12_like 95 = .ok (.iload 4, 2) := by decide +kernel
theorem dX12_like_97 : decode cX12_like 97 = .ok (.invokevirtual 459, 3) := by decide +kernel
theorem dX12_like_100 : decode cX12_like 100 = .ok (.ireturn, 1) := by decide +kernel
theorem dX12_fill_0 : decode cX12_fill 0 = .ok (.aload_n 0, 1) := by decide +kernel
theorem dX12_fill_1 : decode cX12_fill 1 = .ok (.iconst 0, 1) := by decide +kernel
theorem dX12_fill_2 : decode cX12_fill 2 = .ok (.putfield 139, 3) := by decide +kernel
theorem dX12_fill_5 : decode cX12_fill 5 = .ok (.aload_n 0, 1) := by decide +kernel
theorem dX12_fill_6 : decode cX12_fill 6 = .ok (.iload_n 1, 1) := by decide +kernel
theorem dX12_fill_7 : decode cX12_fill 7 = .ok (.invokevirtual 433, 3) := by decide +kernel
theorem dX12_fill_10 : decode cX12_fill 10 = .ok (.ifCond .eq 10, 3) := by decide +kernel
theorem dX12_fill_13 : decode cX12_fill 13 = .ok (.iload_n 2, 1) := by decide +kernel
theorem dX12_fill_14 : decode cX12_fill 14 = .ok (.invokestatic 450, 3) := by decide +kernel
theorem dX12_fill_17 : decode cX12_fill 17 = .ok (.ifCond .ne 5, 3) := by decide +kernel
theorem dX12_fill_20 : decode cX12_fill 20 = .ok (.iconst (-1), 1) := by decide +kernel
theorem dX12_fill_21 : decode cX12_fill 21 = .ok (.ireturn, 1) := by decide +kernel
theorem dX12_fill_22 : decode cX12_fill 22 = .ok (.aload_n 0, 1) := by decide +kernel
theorem dX12_fill_23 : decode cX12_fill 23 = .ok (.getfield 100, 3) := by decide +kernel
theorem dX12_fill_26 : decode cX12_fill 26 = .ok (.iload_n 1, 1) := by decide +kernel
theorem dX12_fill_27 : decode cX12_fill 27 = .ok (.iaload, 1) := by decide +kernel
theorem dX12_fill_28 : decode cX12_fill 28 = .ok (.iload_n 2, 1) := by decide +kernel
theorem dX12_fill_29 : decode cX12_fill 29 = .ok (.invokestatic 250, 3) := by decide +kernel
theorem dX12_fill_32 : decode cX12_fill 32 = .ok (.ifCond .ne 6, 3) := by decide +kernel
theorem dX12_fill_35 : decode cX12_fill 35 = .ok (.bipush (-2), 2) := by decide +kernel
theorem dX12_fill_37 : decode cX12_fill 37 = .ok (.ireturn, 1) := by decide +kernel
theorem dX12_fill_38 : decode cX12_fill 38 = .ok (.aload_n 0, 1) := by decide +kernel
theorem dX12_fill_39 : decode cX12_fill 39 = .ok (.invokevirtual 347, 3) := by decide +kernel
theorem dX12_fill_42 : decode cX12_fill 42 = .ok (.iconst 0, 1) := by decide +kernel
theorem dX12_fill_43 : decode cX12_fill 43 = .ok (.istore_n 3, 1) := by decide +kernel
theorem dX12_fill_44 : decode cX12_fill 44 = .ok (.iconst 0, 1) := by decide +kernel
theorem dX12_fill_45 : decode cX12_fill 45 = .ok (.istore 4, 2) := by decide +kernel
theorem dX12_fill_47 : decode cX12_fill 47 = .ok (.iconst 1, 1) := by decide +kernel
theorem dX12_fill_48 : decode cX12_fill 48 = .ok (.istore 5, 2) := by decide +kernel
theorem dX12_fill_50 : decode cX12_fill 50 = .ok (.iload 5, 2) := by decide +kernel
theorem dX12_fill_52 : decode cX12_fill 52 = .ok (.bipush 9, 2) := by decide +kernel
theorem dX12_fill_54 : decode cX12_fill 54 = .ok (.if_icmp .gt 144, 3) := by decide +kernel
theorem dX12_fill_57 : decode cX12_fill 57 = .ok (.iconst 0, 1) := by decide +kernel
theorem dX12_fill_58 : decode cX12_fill 58 = .ok (.istore 6, 2) := by decide +kernel
theorem dX12_fill_60 : decode cX12_fill 60 = .ok (.iconst 0, 1) := by decide +kernel
theorem dX12_fill_61 : decode cX12_fill 61 = .ok (.istore 7, 2) := by decide +kernel
theorem dX12_fill_63 : decode cX12_fill 63 = .ok (.iload 7, 2) := by decide +kernel
theorem dX12_fill_65 : decode cX12_fill 65 = .ok (.aload_n 0, 1) := by decide +kernel
theorem dX12_fill_66 : decode cX12_fill 66 = .ok (.getfield 219, 3) := by decide +kernel
theorem dX12_fill_69 : decode cX12_fill 69 = .ok (.if_icmp .ge 102, 3) := by decide +kernel
theorem dX12_fill_72 : decode cX12_fill 72 = .ok (.aload_n 0, 1) := by decide +kernel
theorem dX12_fill_73 : decode cX12_fill 73 = .ok (.getfield 42, 3) := by decide +kernel
theorem dX12_fill_76 : decode cX12_fill 76 = .ok (.iload_n 1, 1) := by decide +kernel
theorem dX12_fill_77 : decode cX12_fill 77 = .ok (.iaload, 1) := by decide +kernel
theorem dX12_fill_78 : decode cX12_fill 78 = .ok (.iload 7, 2) := by decide +kernel
theorem dX12_fill_80 : decode cX12_fill 80 = .ok (.invokestatic 250, 3) := by decide +kernel
theorem dX12_fill_83 : decode cX12_fill 83 = .ok (.ifCond .ne 6, 3) := by decide +kernel
theorem dX12_fill_86 : decode cX12_fill 86 = .ok (.goto 79, 3) := by decide +kernel
theorem dX12_fill_89 : decode cX12_fill 89 = .ok (.iconst 0, 1) := by decide +kernel
theorem dX12_fill_90 : decode cX12_fill 90 = .ok (.istore 8, 2) := by decide +kernel
theorem dX12_fill_92 : decode cX12_fill 92 = .ok (.iload 8, 2) := by decide +kernel
theorem dX12_fill_94 : decode cX12_fill 94 = .ok (.bipush 8, 2) := by decide +kernel
theorem dX12_fill_96 : decode cX12_fill 96 = .ok (.if_icmp .ge 69, 3) := by decide +kernel
theorem dX12_fill_99 : decode cX12_fill 99 = .ok (.aload_n 0, 1) := by decide +kernel
theorem dX12_fill_100 : decode cX12_fill 100 = .ok (.getfield 36, 3) := by decide +kernel
theorem dX12_fill_103 : decode cX12_fill 103 = .ok (.bipush 8, 2) := by decide +kernel
theorem dX12_fill_105 : decode cX12_fill 105 = .ok (.iload_n 1, 1) := by decide +kernel
theorem dX12_fill_106 : decode cX12_fill 106 = .ok (.imul, 1) := by decide +kernel
theorem dX12_fill_107 : decode cX12_fill 107 = .ok (.iload 8, 2) := by decide +kernel
theorem dX12_fill_109 : decode cX12_fill 109 = .ok (.iadd, 1) := by decide +kernel
theorem dX12_fill_110 : decode cX12_fill 110 = .ok (.iaload, 1) := by decide +kernel
theorem dX12_fill_111 : decode cX12_fill 111 = .ok (.iload_n 2, 1) := by decide +kernel
theorem dX12_fill_112 : decode cX12_fill 112 = .ok (.if_icmp .ne 8, 3) := by decide +kernel
theorem dX12_fill_115 : decode cX12_fill 115 = .ok (.iload 5, 2) := by decide +kernel
theorem dX12_fill_117 : decode cX12_fill 117 = .ok (.goto 11, 3) := by decide +kernel
theorem dX12_fill_120 : decode cX12_fill 120 = .ok (.aload_n 0, 1) := by decide +kernel
theorem dX12_fill_121 : decode cX12_fill 121 = .ok (.iconst 0, 1) := by decide +kernel
theorem dX12_fill_122 : decode cX12_fill 122 = .ok (.iload_n 1, 1) := by decide +kernel
theorem dX12_fill_123 : decode cX12_fill 123 = .ok (.iload 8, 2) := by decide +kernel
theorem dX12_fill_125 : decode cX12_fill 125 = .ok (.invokevirtual 381, 3) := by decide +kernel
theorem dX12_fill_128 : decode cX12_fill 128 = .ok (.istore 9, 2) := by decide +kernel
theorem dX12_fill_130 : decode cX12_fill 130 = .ok (.iload 6, 2) := by decide +kernel
theorem dX12_fill_132 : decode cX12_fill 132 = .ok (.iload 9, 2) := by decide +kernel
theorem dX12_fill_134 : decode cX12_fill 134 = .ok (.ifCond .le 21, 3) := by decide +kernel
theorem dX12_fill_137 : decode cX12_fill 137 = .ok (.iload 9, 2) := by decide +kernel
theorem dX12_fill_139 : decode cX12_fill 139 = .ok (.aload_n 0, 1) := by decide +kernel
theorem dX12_fill_140 : decode cX12_fill 140 = .ok (.iconst 0, 1) := by decide +kernel
theorem dX12_fill_141 : decode cX12_fill 141 = .ok (.iload 7, 2) := by decide +kernel
theorem dX12_fill_143 : decode cX12_fill 143 = .ok (.iload 8, 2) := by decide +kernel
theorem dX12_fill_145 : decode cX12_fill 145 = .ok (.invokevirtual 381, 3) := by decide +kernel
theorem dX12_fill_148 : decode cX12_fill 148 = .ok (.if_icmp .ne 7, 3) := by decide +kernel
theorem dX12_fill_151 : decode cX12_fill 151 = .ok (.iconst 1, 1) := by decide +kernel
theorem dX12_fill_152 : decode cX12_fill 152 = .ok (.goto 4, 3) := by decide +kernel
theorem dX12_fill_155 : decode cX12_fill 155 = .ok (.iconst 0, 1) := by decide +kernel
theorem dX12_fill_156 : decode cX12_fill 156 = .ok (.iadd, 1) := by decide +kernel
theorem dX12_fill_157 : decode cX12_fill 157 = .ok (.istore 6, 2) := by decide +kernel
theorem dX12_fill_159 : decode cX12_fill 159 = .ok (.iinc 8 1, 3) := by decide +kernel
theorem dX12_fill_162 : decode cX12_fill 162 = .ok (.goto (-70), 3) := by decide +kernel
theorem dX12_fill_165 : decode cX12_fill 165 = .ok (.iinc 7 1, 3) := by decide +kernel
theorem dX12_fill_168 : decode cX12_fill 168 = .ok (.goto (-105), 3) := by decide +kernel
theorem dX12_fill_171 : decode cX12_fill 171 = .ok (.iload_n 3, 1) := by decide +kernel
theorem dX12_fill_172 : decode cX12_fill 172 = .ok (.ifCond .le 13, 3) := by decide +kernel
theorem dX12_fill_175 : decode cX12_fill 175 = .ok (.iload 6, 2) := by decide +kernel
theorem dX12_fill_177 : decode cX12_fill 177 = .ok (.iload 4, 2) := by decide +kernel
theorem dX12_fill_179 : decode cX12_fill 179 = .ok (.if_icmp .gt 6, 3) := by decide +kernel
theorem dX12_fill_182 : decode cX12_fill 182 = .ok (.goto 10, 3) := by decide +kernel
theorem dX12_fill_185 : decode cX12_fill 185 = .ok (.iload 5, 2) := by decide +kernel
theorem dX12_fill_187 : decode cX12_fill 187 = .ok (.istore_n 3, 1) := by decide +kernel
theorem dX12_fill_188 : decode cX12_fill 188 = .ok (.iload 6, 2) := by decide +kernel
theorem dX12_fill_190 : decode cX12_fill 190 = .ok (.istore 4, 2) := by decide +kernel
theorem dX12_fill_192 : decode cX12_fill 192 = .ok (.iinc 5 1, 3) := by decide +kernel
theorem dX12_fill_195 : decode cX12_fill 195 = .ok (.goto (-145), 3) := by decide +kernel
theorem dX12_fill_198 : decode cX12_fill 198 = .ok (.iload_n 3, 1) := by decide +kernel
theorem dX12_fill_199 : decode cX12_fill 199 = .ok (.ireturn, 1) := by decide +kernel
theorem dX12_overlap_0 : decode cX12_overlap 0 = .ok (.bipush 7, 2) := by decide +kernel
theorem dX12_overlap_2 : decode cX12_overlap 2 = .ok (.istore_n 3, 1) := by decide +kernel
theorem dX12_overlap_3 : decode cX12_overlap 3 = .ok (.iload_n 3, 1) := by decide +kernel
theorem dX12_overlap_4 : decode cX12_overlap 4 = .ok (.ifCond .le 70, 3) := by decide +kernel
theorem dX12_overlap_7 : decode cX12_overlap 7 = .ok (.iconst 1, 1) := by decide +kernel
theorem dX12_overlap_8 : decode cX12_overlap 8 = .ok (.istore 4, 2) := by decide +kernel
theorem dX12_overlap_10 : decode cX12_overlap 10 = .ok (.iconst 0, 1) := by decide +kernel
theorem dX12_overlap_11 : decode cX12_overlap 11 = .ok (.istore 5, 2) := by decide +kernel
theorem dX12_overlap_13 : decode cX12_overlap 13 = .ok (.iload 5, 2) := by decide +kernel
theorem dX12_overlap_15 : decode cX12_overlap 15 = .ok (.iload_n 3, 1) := by decide +kernel
theorem dX12_overlap_16 : decode cX12_overlap 16 = .ok (.if_icmp .ge 45, 3) := by decide +kernel
theorem dX12_overlap_19 : decode cX12_overlap 19 = .ok (.iload 4, 2) := by decide +kernel
theorem dX12_overlap_21 : decode cX12_overlap 21 = .ok (.ifCond .eq 31, 3) := by decide +kernel
theorem dX12_overlap_24 : decode cX12_overlap 24 = .ok (.aload_n 0, 1) := by decide +kernel
theorem dX12_overlap_25 : decode cX12_overlap 25 = .ok (.iconst 0, 1) := by decide +kernel
theorem dX12_overlap_26 : decode cX12_overlap 26 = .ok (.iload_n 1, 1) := by decide +kernel
theorem dX12_overlap_27 : decode cX12_overlap 27 = .ok (.bipush 8, 2) := by decide +kernel
theorem dX12_overlap_29 : decode cX12_overlap 29 = .ok (.iload_n 3, 1) := by decide +kernel
theorem dX12_overlap_30 : decode cX12_overlap 30 = .ok (.isub, 1) := by decide +kernel
theorem dX12_overlap_31 : decode cX12_overlap 31 = .ok (.iload 5, 2) := by decide +kernel
theorem dX12_overlap_33 : decode cX12_overlap 33 = .ok (.iadd, 1) := by decide +kernel
theorem dX12_overlap_34 : decode cX12_overlap 34 = .ok (.invokevirtual 381, 3) := by decide +kernel
theorem dX12_overlap_37 : decode cX12_overlap 37 = .ok (.aload_n 0, 1) := by decide +kernel
theorem dX12_overlap_38 : decode cX12_overlap 38 = .ok (.iconst 0, 1) := by decide +kernel
theorem dX12_overlap_39 : decode cX12_overlap 39 = .ok (.iload_n 2, 1) := by decide +kernel
theorem dX12_overlap_40 : decode cX12_overlap 40 = .ok (.iload 5, 2) := by decide +kernel
theorem dX12_overlap_42 : decode cX12_overlap 42 = .ok (.invokevirtual 381, 3) := by decide +kernel
theorem dX12_overlap_45 : decode cX12_overlap 45 = .ok (.if_icmp .ne 7, 3) := by decide +kernel
theorem dX12_overlap_48 : decode cX12_overlap 48 = .ok (.iconst 1, 1) := by decide +kernel
theorem dX12_overlap_49 : decode cX12_overlap 49 = .ok (.goto 4, 3) := by decide +kernel
theorem dX12_overlap_52 : decode cX12_overlap 52 = .ok (.iconst 0, 1) := by decide +kernel
theorem dX12_overlap_53 : decode cX12_overlap 53 = .ok (.istore 4, 2) := by decide +kernel
theorem dX12_overlap_55 : decode cX12_overlap 55 = .ok (.iinc 5 1, 3) := by decide +kernel
theorem dX12_overlap_58 : decode cX12_overlap 58 = .ok (.goto (-45), 3) := by decide +kernel
theorem dX12_overlap_61 : decode cX12_overlap 61 = .ok (.iload 4, 2) := by decide +kernel
theorem dX12_overlap_63 : decode cX12_overlap 63 = .ok (.ifCond .eq 5, 3) := by decide +kernel
theorem dX12_overlap_66 : decode cX12_overlap 66 = .ok (.iload_n 3, 1) := by decide +kernel
theorem dX12_overlap_67 : decode cX12_overlap 67 = .ok (.ireturn, 1) := by decide +kernel
theorem dX12_overlap_68 : decode cX12_overlap 68 = .ok (.iinc 3 (-1), 3) := by decide +kernel
theorem dX12_overlap_71 : decode cX12_overlap 71 = .ok (.goto (-68), 3) := by decide +kernel
theorem dX12_overlap_74 : decode cX12_overlap 74 = .ok (.iconst 0, 1) := by decide +kernel
theorem dX12_overlap_75 : decode cX12_overlap 75 = .ok (.ireturn, 1) := by decide +kernel
theorem dX12_powerOf_0 : decode cX12_powerOf 0 = .ok (.iconst 1, 1) := by decide +kernel
theorem dX12_powerOf_1 : decode cX12_powerOf 1 = .ok (.istore_n 2, 1) := by decide +kernel
theorem dX12_powerOf_2 : decode cX12_powerOf 2 = .ok (.iconst 0, 1) := by decide +kernel
theorem dX12_powerOf_3 : decode cX12_powerOf 3 = .ok (.istore_n 3, 1) := by decide +kernel
theorem dX12_powerOf_4 : decode cX12_powerOf 4 = .ok (.iload_n 3, 1) := by decide +kernel
theorem dX12_powerOf_5 : decode cX12_powerOf 5 = .ok (.iload_n 1, 1) := by decide +kernel
theorem dX12_powerOf_6 : decode cX12_powerOf 6 = .ok (.if_icmp .ge 13, 3) := by decide +kernel
theorem dX12_powerOf_9 : decode cX12_powerOf 9 = .ok (.iload_n 2, 1) := by decide +kernel
theorem dX12_powerOf_10 : decode cX12_powerOf 10 = .ok (.iload_n 0, 1) := by decide +kernel
theorem dX12_powerOf_11 : decode cX12_powerOf 11 = .ok (.imul, 1) := by decide +kernel
theorem dX12_powerOf_12 : decode cX12_powerOf 12 = .ok (.istore_n 2, 1) := by decide +kernel
theorem dX12_powerOf_13 : decode cX12_powerOf 13 = .ok (.iinc 3 1, 3) := by decide +kernel
theorem dX12_powerOf_16 : decode cX12_powerOf 16 = .ok (.goto (-12), 3) := by decide +kernel
theorem dX12_powerOf_19 : decode cX12_powerOf 19 = .ok (.iload_n 2, 1) := by decide +kernel
theorem dX12_powerOf_20 : decode cX12_powerOf 20 = .ok (.ireturn, 1) := by decide +kernel
theorem dX12_rowLong_0 : decode cX12_rowLong 0 = .ok (.iconst 0, 1) := by decide +kernel
theorem dX12_rowLong_1 : decode cX12_rowLong 1 = .ok (.istore_n 3, 1) := by decide +kernel
theorem dX12_rowLong_2 : decode cX12_rowLong 2 = .ok (.iconst 0, 1) := by decide +kernel
theorem dX12_rowLong_3 : decode cX12_rowLong 3 = .ok (.istore 4, 2) := by decide +kernel
theorem dX12_rowLong_5 : decode cX12_rowLong 5 = .ok (.iconst (-1), 1) := by decide +kernel
theorem dX12_rowLong_6 : decode cX12_rowLong 6 = .ok (.istore 5, 2) := by decide +kernel
theorem dX12_rowLong_8 : decode cX12_rowLong 8 = .ok (.iconst 0, 1) := by decide +kernel
theorem dX12_rowLong_9 : decode cX12_rowLong 9 = .ok (.istore 6, 2) := by decide +kernel
theorem dX12_rowLong_11 : decode cX12_rowLong 11 = .ok (.iload 6, 2) := by decide +kernel
theorem dX12_rowLong_13 : decode cX12_rowLong 13 = .ok (.iload_n 2, 1) := by decide +kernel
theorem dX12_rowLong_14 : decode cX12_rowLong 14 = .ok (.if_icmp .ge 78, 3) := by decide +kernel
theorem dX12_rowLong_17 : decode cX12_rowLong 17 = .ok (.iload_n 1, 1) := by decide +kernel
theorem dX12_rowLong_18 : decode cX12_rowLong 18 = .ok (.iload_n 2, 1) := by decide +kernel
theorem dX12_rowLong_19 : decode cX12_rowLong 19 = .ok (.iload_n 2, 1) := by decide +kernel
theorem dX12_rowLong_20 : decode cX12_rowLong 20 = .ok (.iconst 1, 1) := by decide +kernel
theorem dX12_rowLong_21 : decode cX12_rowLong 21 = .ok (.isub, 1) := by decide +kernel
theorem dX12_rowLong_22 : decode cX12_rowLong 22 = .ok (.iload 6, 2) := by decide +kernel
theorem dX12_rowLong_24 : decode cX12_rowLong 24 = .ok (.isub, 1) := by decide +kernel
theorem dX12_rowLong_25 : decode cX12_rowLong 25 = .ok (.invokestatic 462, 3) := by decide +kernel
theorem dX12_rowLong_28 : decode cX12_rowLong 28 = .ok (.idiv, 1) := by decide +kernel
theorem dX12_rowLong_29 : decode cX12_rowLong 29 = .ok (.iload_n 2, 1) := by decide +kernel
theorem dX12_rowLong_30 : decode cX12_rowLong 30 = .ok (.irem, 1) := by decide +kernel
theorem dX12_rowLong_31 : decode cX12_rowLong 31 = .ok (.istore 7, 2) := by decide +kernel
theorem dX12_rowLong_33 : decode cX12_rowLong 33 = .ok (.iload_n 3, 1) := by decide +kernel
theorem dX12_rowLong_34 : decode cX12_rowLong 34 = .ok (.iload 7, 2) := by decide +kernel
theorem dX12_rowLong_36 : decode cX12_rowLong 36 = .ok (.invokestatic 250, 3) := by decide +kernel
theorem dX12_rowLong_39 : decode cX12_rowLong 39 = .ok (.ifCond .eq 5, 3) := by decide +kernel
theorem dX12_rowLong_42 : decode cX12_rowLong 42 = .ok (.iconst (-1), 1) := by decide +kernel
theorem dX12_rowLong_43 : decode cX12_rowLong 43 = .ok (.ireturn, 1) := by decide +kernel
theorem dX12_rowLong_44 : decode cX12_rowLong 44 = .ok (.iload_n 3, 1) := by decide +kernel
theorem dX12_rowLong_45 : decode cX12_rowLong 45 = .ok (.iconst 1, 1) := by decide +kernel
theorem dX12_rowLong_46 : decode cX12_rowLong 46 = .ok (.iload 7, 2) := by decide +kernel
theorem dX12_rowLong_48 : decode cX12_rowLong 48 = .ok (.ishl, 1) := by decide +kernel
theorem dX12_rowLong_49 : decode cX12_rowLong 49 = .ok (.ior, 1) := by decide +kernel
theorem dX12_rowLong_50 : decode cX12_rowLong 50 = .ok (.istore_n 3, 1) := by decide +kernel
theorem dX12_rowLong_51 : decode cX12_rowLong 51 = .ok (.iload 4, 2) := by decide +kernel
theorem dX12_rowLong_53 : decode cX12_rowLong 53 = .ok (.iload 5, 2) := by decide +kernel
theorem dX12_rowLong_55 : decode cX12_rowLong 55 = .ok (.ifCond .ge 8, 3) := by decide +kernel
theorem dX12_rowLong_58 : decode cX12_rowLong 58 = .ok (.bipush 8, 2) := by decide +kernel
theorem dX12_rowLong_60 : decode cX12_rowLong 60 = .ok (.goto 19, 3) := by decide +kernel
theorem dX12_rowLong_63 : decode cX12_rowLong 63 = .ok (.bipush 8, 2) := by decide +kernel
theorem dX12_rowLong_65 : decode cX12_rowLong 65 = .ok (.aload_n 0, 1) := by decide +kernel
theorem dX12_rowLong_66 : decode cX12_rowLong 66 = .ok (.getfield 112, 3) := by decide +kernel
theorem dX12_rowLong_69 : decode cX12_rowLong 69 = .ok (.bipush 6, 2) := by decide +kernel
theorem dX12_rowLong_71 : decode cX12_rowLong 71 = .ok (.iload 5, 2) := by decide +kernel
theorem dX12_rowLong_73 : decode cX12_rowLong 73 = .ok (.imul, 1) := by decide +kernel
theorem dX12_rowLong_74 : decode cX12_rowLong 74 = .ok (.iload 7, 2) := by decide +kernel
theorem dX12_rowLong_76 : decode cX12_rowLong 76 = .ok (.iadd, 1) := by decide +kernel
theorem dX12_rowLong_77 : decode cX12_rowLong 77 = .ok (.iaload, 1) := by decide +kernel
theorem dX12_rowLong_78 : decode cX12_rowLong 78 = .ok (.isub, 1) := by decide +kernel
theorem dX12_rowLong_79 : decode cX12_rowLong 79 = .ok (.iadd, 1) := by decide +kernel
theorem dX12_rowLong_80 : decode cX12_rowLong 80 = .ok (.istore 4, 2) := by decide +kernel
theorem dX12_rowLong_82 : decode cX12_rowLong 82 = .ok (.iload 7, 2) := by decide +kernel
theorem dX12_rowLong_84 : decode cX12_rowLong 84 = .ok (.istore 5, 2) := by decide +kernel
theorem dX12_rowLong_86 : decode cX12_rowLong 86 = .ok (.iinc 6 1, 3) := by decide +kernel
theorem dX12_rowLong_89 : decode cX12_rowLong 89 = .ok (.goto (-78), 3) := by decide +kernel
theorem dX12_rowLong_92 : decode cX12_rowLong 92 = .ok (.iload 4, 2) := by decide +kernel
theorem dX12_rowLong_94 : decode cX12_rowLong 94 = .ok (.ireturn, 1) := by decide +kernel
theorem dX12_join_0 : decode cX12_join 0 = .ok (.aload_n 0, 1) := by decide +kernel
theorem dX12_join_1 : decode cX12_join 1 = .ok (.iconst 0, 1) := by decide +kernel
theorem dX12_join_2 : decode cX12_join 2 = .ok (.putfield 139, 3) := by decide +kernel
theorem dX12_join_5 : decode cX12_join 5 = .ok (.iload_n 1, 1) := by decide +kernel
theorem dX12_join_6 : decode cX12_join 6 = .ok (.ifCond .lt 23, 3) := by decide +kernel
theorem dX12_join_9 : decode cX12_join 9 = .ok (.iload_n 1, 1) := by decide +kernel
theorem dX12_join_10 : decode cX12_join 10 = .ok (.iconst 1, 1) := by decide +kernel
theorem dX12_join_11 : decode cX12_join 11 = .ok (.aload_n 0, 1) := by decide +kernel
theorem dX12_join_12 : decode cX12_join 12 = .ok (.getfield 219, 3) := by decide +kernel
theorem dX12_join_15 : decode cX12_join 15 = .ok (.ishl, 1) := by decide +kernel
theorem dX12_join_16 : decode cX12_join 16 = .ok (.if_icmp .ge 13, 3) := by decide +kernel
theorem dX12_join_19 : decode cX12_join 19 = .ok (.iload_n 2, 1) := by decide +kernel
theorem dX12_join_20 : decode cX12_join 20 = .ok (.iconst 0, 1) := by decide +kernel
theorem dX12_join_21 : decode cX12_join 21 = .ok (.bipush 6, 2) := by decide +kernel
theorem dX12_join_23 : decode cX12_join 23 = .ok (.invokestatic 184, 3) := by decide +kernel
theorem dX12_join_26 : decode cX12_join 26 = .ok (.ifCond .ne 5, 3) := by decide +kernel
theorem dX12_join_29 : decode cX12_join 29 = .ok (.iconst (-1), 1) := by decide +kernel
theorem dX12_join_30 : decode cX12_join 30 = .ok (.ireturn, 1) := by decide +kernel
theorem dX12_join_31 : decode cX12_join 31 = .ok (.aload_n 0, 1) := by decide +kernel
theorem dX12_join_32 : decode cX12_join 32 = .ok (.invokevirtual 347, 3) := by decide +kernel
theorem dX12_join_35 : decode cX12_join 35 = .ok (.iconst 0, 1) := by decide +kernel
theorem dX12_join_36 : decode cX12_join 36 = .ok (.istore_n 3, 1) := by decide +kernel
theorem dX12_join_37 : decode cX12_join 37 = .ok (.iconst 0, 1) := by decide +kernel
theorem dX12_join_38 : decode cX12_join 38 = .ok (.istore 4, 2) := by decide +kernel
theorem dX12_join_40 : decode cX12_join 40 = .ok (.iload 4, 2) := by decide +kernel
theorem dX12_join_42 : decode cX12_join 42 = .ok (.aload_n 0, 1) := by decide +kernel
theorem dX12_join_43 : decode cX12_join 43 = .ok (.getfield 219, 3) := by decide +kernel
theorem dX12_join_46 : decode cX12_join 46 = .ok (.if_icmp .ge 32, 3) := by decide +kernel
theorem dX12_join_49 : decode cX12_join 49 = .ok (.iload_n 1, 1) := by decide +kernel
theorem dX12_join_50 : decode cX12_join 50 = .ok (.iload 4, 2) := by decide +kernel
theorem dX12_join_52 : decode cX12_join 52 = .ok (.invokestatic 250, 3) := by decide +kernel
theorem dX12_join_55 : decode cX12_join 55 = .ok (.ifCond .ne 6, 3) := by decide +kernel
theorem dX12_join_58 : decode cX12_join 58 = .ok (.goto 14, 3) := by decide +kernel
theorem dX12_join_61 : decode cX12_join 61 = .ok (.aload_n 0, 1) := by decide +kernel
theorem dX12_join_62 : decode cX12_join 62 = .ok (.getfield 109, 3) := by decide +kernel
theorem dX12_join_65 : decode cX12_join 65 = .ok (.iload_n 3, 1) := by decide +kernel
theorem dX12_join_66 : decode cX12_join 66 = .ok (.iload 4, 2) := by decide +kernel
theorem dX12_join_68 : decode cX12_join 68 = .ok (.iastore, 1) := by decide +kernel
theorem dX12_join_69 : decode cX12_join 69 = .ok (.iinc 3 1, 3) := by decide +kernel
theorem dX12_join_72 : decode cX12_join 72 = .ok (.iinc 4 1, 3) := by decide +kernel
theorem dX12_join_75 : decode cX12_join 75 = .ok (.goto (-35), 3) := by decide +kernel
theorem dX12_join_78 : decode cX12_join 78 = .ok (.iload_n 2, 1) := by decide +kernel
theorem dX12_join_79 : decode cX12_join 79 = .ok (.bipush 6, 2) := by decide +kernel
theorem dX12_join_81 : decode cX12_join 81 = .ok (.if_icmp .ge 11, 3) := by decide +kernel
theorem dX12_join_84 : decode cX12_join 84 = .ok (.iload_n 2, 1) := by decide +kernel
theorem dX12_join_85 : decode cX12_join 85 = .ok (.iload_n 3, 1) := by decide +kernel
theorem dX12_join_86 : decode cX12_join 86 = .ok (.if_icmp .lt 6, 3) := by decide +kernel
theorem dX12_join_89 : decode cX12_join 89 = .ok (.bipush (-2), 2) := by decide +kernel
theorem dX12_join_91 : decode cX12_join 91 = .ok (.ireturn, 1) := by decide +kernel
theorem dX12_join_92 : decode cX12_join 92 = .ok (.iload_n 3, 1) := by decide +kernel
theorem dX12_join_93 : decode cX12_join 93 = .ok (.ifCond .ne 5, 3) := by decide +kernel
theorem dX12_join_96 : decode cX12_join 96 = .ok (.iconst 0, 1) := by decide +kernel
theorem dX12_join_97 : decode cX12_join 97 = .ok (.ireturn, 1) := by decide +kernel
theorem dX12_join_98 : decode cX12_join 98 = .ok (.iconst 0, 1) := by decide +kernel
theorem dX12_join_99 : decode cX12_join 99 = .ok (.istore 4, 2) := by decide +kernel
theorem dX12_join_101 : decode cX12_join 101 = .ok (.iload 4, 2) := by decide +kernel
theorem dX12_join_103 : decode cX12_join 103 = .ok (.iload_n 3, 1) := by decide +kernel
theorem dX12_join_104 : decode cX12_join 104 = .ok (.if_icmp .ge 55, 3) := by decide +kernel
theorem dX12_join_107 : decode cX12_join 107 = .ok (.iconst 0, 1) := by decide +kernel
theorem dX12_join_108 : decode cX12_join 108 = .ok (.istore 5, 2) := by decide +kernel
theorem dX12_join_110 : decode cX12_join 110 = .ok (.iload 5, 2) := by decide +kernel
theorem dX12_join_112 : decode cX12_join 112 = .ok (.iload_n 3, 1) := by decide +kernel
theorem dX12_join_113 : decode cX12_join 113 = .ok (.if_icmp .ge 40, 3) := by decide +kernel
theorem dX12_join_116 : decode cX12_join 116 = .ok (.aload_n 0, 1) := by decide +kernel
theorem dX12_join_117 : decode cX12_join 117 = .ok (.getfield 112, 3) := by decide +kernel
theorem dX12_join_120 : decode cX12_join 120 = .ok (.bipush 6, 2) := by decide +kernel
theorem dX12_join_122 : decode cX12_join 122 = .ok (.iload 4, 2) := by decide +kernel
theorem dX12_join_124 : decode cX12_join 124 = .ok (.imul, 1) := by decide +kernel
theorem dX12_join_125 : decode cX12_join 125 = .ok (.iload 5, 2) := by decide +kernel
theorem dX12_join_127 : decode cX12_join 127 = .ok (.iadd, 1) := by decide +kernel
theorem dX12_join_128 : decode cX12_join 128 = .ok (.aload_n 0, 1) := by decide +kernel
theorem dX12_join_129 : decode cX12_join 129 = .ok (.aload_n 0, 1) := by decide +kernel
theorem dX12_join_130 : decode cX12_join 130 = .ok (.getfield 109, 3) := by decide +kernel
theorem dX12_join_133 : decode cX12_join 133 = .ok (.iload 4, 2) := by decide +kernel
theorem dX12_join_135 : decode cX12_join 135 = .ok (.iaload, 1) := by decide +kernel
theorem dX12_join_136 : decode cX12_join 136 = .ok (.aload_n 0, 1) := by decide +kernel
theorem dX12_join_137 : decode cX12_join 137 = .ok (.getfield 109, 3) := by decide +kernel
theorem dX12_join_140 : decode cX12_join 140 = .ok (.iload 5, 2) := by decide +kernel
theorem dX12_join_142 : decode cX12_join 142 = .ok (.iaload, 1) := by decide +kernel
theorem dX12_join_143 : decode cX12_join 143 = .ok (.invokevirtual 465, 3) := by decide +kernel
theorem dX12_join_146 : decode cX12_join 146 = .ok (.iastore, 1) := by decide +kernel
theorem dX12_join_147 : decode cX12_join 147 = .ok (.iinc 5 1, 3) := by decide +kernel
theorem dX12_join_150 : decode cX12_join 150 = .ok (.goto (-40), 3) := by decide +kernel
theorem dX12_join_153 : decode cX12_join 153 = .ok (.iinc 4 1, 3) := by decide +kernel
theorem dX12_join_156 : decode cX12_join 156 = .ok (.goto (-55), 3) := by decide +kernel
theorem dX12_join_159 : decode cX12_join 159 = .ok (.iconst (-1), 1) := by decide +kernel
theorem dX12_join_160 : decode cX12_join 160 = .ok (.istore 4, 2) := by decide +kernel
theorem dX12_join_162 : decode cX12_join 162 = .ok (.iconst 0, 1) := by decide +kernel
theorem dX12_join_163 : decode cX12_join 163 = .ok (.istore 5, 2) := by decide +kernel
theorem dX12_join_165 : decode cX12_join 165 = .ok (.iconst 0, 1) := by decide +kernel
theorem dX12_join_166 : decode cX12_join 166 = .ok (.istore 6, 2) := by decide +kernel
theorem dX12_join_168 : decode cX12_join 168 = .ok (.iload 6, 2) := by decide +kernel
theorem dX12_join_170 : decode cX12_join 170 = .ok (.iload_n 3, 1) := by decide +kernel
theorem dX12_join_171 : decode cX12_join 171 = .ok (.iload_n 3, 1) := by decide +kernel
theorem dX12_join_172 : decode cX12_join 172 = .ok (.invokestatic 462, 3) := by decide +kernel
theorem dX12_join_175 : decode cX12_join 175 = .ok (.if_icmp .ge 46, 3) := by decide +kernel
theorem dX12_join_178 : decode cX12_join 178 = .ok (.aload_n 0, 1) := by decide +kernel
theorem dX12_join_179 : decode cX12_join 179 = .ok (.iload 6, 2) := by decide +kernel
theorem dX12_join_181 : decode cX12_join 181 = .ok (.iload_n 3, 1) := by decide +kernel
theorem dX12_join_182 : decode cX12_join 182 = .ok (.invokevirtual 468, 3) := by decide +kernel
theorem dX12_join_185 : decode cX12_join 185 = .ok (.istore 7, 2) := by decide +kernel
theorem dX12_join_187 : decode cX12_join 187 = .ok (.iload 7, 2) := by decide +kernel
theorem dX12_join_189 : decode cX12_join 189 = .ok (.ifCond .lt 26, 3) := by decide +kernel
theorem dX12_join_192 : decode cX12_join 192 = .ok (.iload 4, 2) := by decide +kernel
theorem dX12_join_194 : decode cX12_join 194 = .ok (.ifCond .lt 13, 3) := by decide +kernel
theorem dX12_join_197 : decode cX12_join 197 = .ok (.iload 7, 2) := by decide +kernel
theorem dX12_join_199 : decode cX12_join 199 = .ok (.iload 5, 2) := by decide +kernel
theorem dX12_join_201 : decode cX12_join 201 = .ok (.if_icmp .lt 6, 3) := by decide +kernel
theorem dX12_join_204 : decode cX12_join 204 = .ok (.goto 11, 3) := by decide +kernel
theorem dX12_join_207 : decode cX12_join 207 = .ok (.iload 6, 2) := by decide +kernel
theorem dX12_join_209 : decode cX12_join 209 = .ok (.istore 4, 2) := by decide +kernel
theorem dX12_join_211 : decode cX12_join 211 = .ok (.iload 7, 2) := by decide +kernel
theorem dX12_join_213 : decode cX12_join 213 = .ok (.istore 5, 2) := by decide +kernel
theorem dX12_join_215 : decode cX12_join 215 = .ok (.iinc 6 1, 3) := by decide +kernel
theorem dX12_join_218 : decode cX12_join 218 = .ok (.goto (-50), 3) := by decide +kernel
theorem dX12_join_221 : decode cX12_join 221 = .ok (.iload_n 2, 1) := by decide +kernel
theorem dX12_join_222 : decode cX12_join 222 = .ok (.bipush 6, 2) := by decide +kernel
theorem dX12_join_224 : decode cX12_join 224 = .ok (.if_icmp .ne 8, 3) := by decide +kernel
theorem dX12_join_227 : decode cX12_join 227 = .ok (.iload 5, 2) := by decide +kernel
theorem dX12_join_229 : decode cX12_join 229 = .ok (.goto 22, 3) := by decide +kernel
theorem dX12_join_232 : decode cX12_join 232 = .ok (.aload_n 0, 1) := by decide +kernel
theorem dX12_join_233 : decode cX12_join 233 = .ok (.getfield 109, 3) := by decide +kernel
theorem dX12_join_236 : decode cX12_join 236 = .ok (.iload 4, 2) := by decide +kernel
theorem dX12_join_238 : decode cX12_join 238 = .ok (.iload_n 3, 1) := by decide +kernel
theorem dX12_join_239 : decode cX12_join 239 = .ok (.iload_n 3, 1) := by decide +kernel
theorem dX12_join_240 : decode cX12_join 240 = .ok (.iconst 1, 1) := by decide +kernel
theorem dX12_join_241 : decode cX12_join 241 = .ok (.isub, 1) := by decide +kernel
theorem dX12_join_242 : decode cX12_join 242 = .ok (.iload_n 2, 1) := by decide +kernel
theorem dX12_join_243 : decode cX12_join 243 = .ok (.isub, 1) := by decide +kernel
theorem dX12_join_244 : decode cX12_join 244 = .ok (.invokestatic 462, 3) := by decide +kernel
theorem dX12_join_247 : decode cX12_join 247 = .ok (.idiv, 1) := by decide +kernel
theorem dX12_join_248 : decode cX12_join 248 = .ok (.iload_n 3, 1) := by decide +kernel
theorem dX12_join_249 : decode cX12_join 249 = .ok (.irem, 1) := by decide +kernel
theorem dX12_join_250 : decode cX12_join 250 = .ok (.iaload, 1) := by decide +kernel
theorem dX12_join_251 : decode cX12_join 251 = .ok (.ireturn, 1) := by decide +kernel
theorem dX12_duet_0 : decode cX12_duet 0 = .ok (.aload_n 0, 1) := by decide +kernel
theorem dX12_duet_1 : decode cX12_duet 1 = .ok (.iconst 0, 1) := by decide +kernel
theorem dX12_duet_2 : decode cX12_duet 2 = .ok (.putfield 139, 3) := by decide +kernel
theorem dX12_duet_5 : decode cX12_duet 5 = .ok (.aload_n 0, 1) := by decide +kernel
theorem dX12_duet_6 : decode cX12_duet 6 = .ok (.iload_n 1, 1) := by decide +kernel
theorem dX12_duet_7 : decode cX12_duet 7 = .ok (.invokevirtual 433, 3) := by decide +kernel
theorem dX12_duet_10 : decode cX12_duet 10 = .ok (.ifCond .eq 16, 3) := by decide +kernel
theorem dX12_duet_13 : decode cX12_duet 13 = .ok (.aload_n 0, 1) := by decide +kernel
theorem dX12_duet_14 : decode cX12_duet 14 = .ok (.iload_n 2, 1) := by decide +kernel
theorem dX12_duet_15 : decode cX12_duet 15 = .ok (.invokevirtual 433, 3) := by decide +kernel
theorem dX12_duet_18 : decode cX12_duet 18 = .ok (.ifCond .eq 8, 3) := by decide +kernel
theorem dX12_duet_21 : decode cX12_duet 21 = .ok (.iload_n 1, 1) := by decide +kernel
theorem dX12_duet_22 : decode cX12_duet 22 = .ok (.iload_n 2, 1) := by decide +kernel
theorem dX12_duet_23 : decode cX12_duet 23 = .ok (.if_icmp .ne 5, 3) := by decide +kernel
theorem dX12_duet_26 : decode cX12_duet 26 = .ok (.iconst (-1), 1) := by decide +kernel
theorem dX12_duet_27 : decode cX12_duet 27 = .ok (.ireturn, 1) := by decide +kernel
theorem dX12_duet_28 : decode cX12_duet 28 = .ok (.aload_n 0, 1) := by decide +kernel
theorem dX12_duet_29 : decode cX12_duet 29 = .ok (.invokevirtual 347, 3) := by decide +kernel
theorem dX12_duet_32 : decode cX12_duet 32 = .ok (.iconst 0, 1) := by decide +kernel
theorem dX12_duet_33 : decode cX12_duet 33 = .ok (.istore_n 3, 1) := by decide +kernel
theorem dX12_duet_34 : decode cX12_duet 34 = .ok (.iload_n 3, 1) := by decide +kernel
theorem dX12_duet_35 : decode cX12_duet 35 = .ok (.sipush 999, 3) := by decide +kernel
theorem dX12_duet_38 : decode cX12_duet 38 = .ok (.if_icmp .gt 57, 3) := by decide +kernel
theorem dX12_duet_41 : decode cX12_duet 41 = .ok (.aload_n 0, 1) := by decide +kernel
theorem dX12_duet_42 : decode cX12_duet 42 = .ok (.iconst 0, 1) := by decide +kernel
theorem dX12_duet_43 : decode cX12_duet 43 = .ok (.iload_n 1, 1) := by decide +kernel
theorem dX12_duet_44 : decode cX12_duet 44 = .ok (.iload_n 3, 1) := by decide +kernel
theorem dX12_duet_45 : decode cX12_duet 45 = .ok (.aload_n 0, 1) := by decide +kernel
theorem dX12_duet_46 : decode cX12_duet 46 = .ok (.getfield 33, 3) := by decide +kernel
theorem dX12_duet_49 : decode cX12_duet 49 = .ok (.iload_n 1, 1) := by decide +kernel
theorem dX12_duet_50 : decode cX12_duet 50 = .ok (.iaload, 1) := by decide +kernel
theorem dX12_duet_51 : decode cX12_duet 51 = .ok (.idiv, 1) := by decide +kernel
theorem dX12_duet_52 : decode cX12_duet 52 = .ok (.bipush 8, 2) := by decide +kernel
theorem dX12_duet_54 : decode cX12_duet 54 = .ok (.irem, 1) := by decide +kernel
theorem dX12_duet_55 : decode cX12_duet 55 = .ok (.invokevirtual 381, 3) := by decide +kernel
theorem dX12_duet_58 : decode cX12_duet 58 = .ok (.istore 4, 2) := by decide +kernel
theorem dX12_duet_60 : decode cX12_duet 60 = .ok (.iload 4, 2) := by decide +kernel
theorem dX12_duet_62 : decode cX12_duet 62 = .ok (.ifCond .le 27, 3) := by decide +kernel
theorem dX12_duet_65 : decode cX12_duet 65 = .ok (.iload 4, 2) := by decide +kernel
theorem dX12_duet_67 : decode cX12_duet 67 = .ok (.aload_n 0, 1) := by decide +kernel
theorem dX12_duet_68 : decode cX12_duet 68 = .ok (.iconst 0, 1) := by decide +kernel
theorem dX12_duet_69 : decode cX12_duet 69 = .ok (.iload_n 2, 1) := by decide +kernel
theorem dX12_duet_70 : decode cX12_duet 70 = .ok (.iload_n 3, 1) := by decide +kernel
theorem dX12_duet_71 : decode cX12_duet 71 = .ok (.aload_n 0, 1) := by decide +kernel
theorem dX12_duet_72 : decode cX12_duet 72 = .ok (.getfield 33, 3) := by decide +kernel
theorem dX12_duet_75 : decode cX12_duet 75 = .ok (.iload_n 2, 1) := by decide +kernel
theorem dX12_duet_76 : decode cX12_duet 76 = .ok (.iaload, 1) := by decide +kernel
theorem dX12_duet_77 : decode cX12_duet 77 = .ok (.idiv, 1) := by decide +kernel
theorem dX12_duet_78 : decode cX12_duet 78 = .ok (.bipush 8, 2) := by decide +kernel
theorem dX12_duet_80 : decode cX12_duet 80 = .ok (.irem, 1) := by decide +kernel
theorem dX12_duet_81 : decode cX12_duet 81 = .ok (.invokevirtual 381, 3) := by decide +kernel
theorem dX12_duet_84 : decode cX12_duet 84 = .ok (.if_icmp .ne 5, 3) := by decide +kernel
theorem dX12_duet_87 : decode cX12_duet 87 = .ok (.iload_n 3, 1) := by decide +kernel
theorem dX12_duet_88 : decode cX12_duet 88 = .ok (.ireturn, 1) := by decide +kernel
theorem dX12_duet_89 : decode cX12_duet 89 = .ok (.iinc 3 1, 3) := by decide +kernel
theorem dX12_duet_92 : decode cX12_duet 92 = .ok (.goto (-58), 3) := by decide +kernel
theorem dX12_duet_95 : decode cX12_duet 95 = .ok (.bipush (-2), 2) := by decide +kernel
theorem dX12_duet_97 : decode cX12_duet 97 = .ok (.ireturn, 1) := by decide +kernel
theorem dX12_tree_0 : decode cX12_tree 0 = .ok (.aload_n 0, 1) := by decide +kernel
theorem dX12_tree_1 : decode cX12_tree 1 = .ok (.iconst 0, 1) := by decide +kernel
theorem dX12_tree_2 : decode cX12_tree 2 = .ok (.putfield 139, 3) := by decide +kernel
theorem dX12_tree_5 : decode cX12_tree 5 = .ok (.aload_n 0, 1) := by decide +kernel
theorem dX12_tree_6 : decode cX12_tree 6 = .ok (.invokevirtual 347, 3) := by decide +kernel
theorem dX12_tree_9 : decode cX12_tree 9 = .ok (.iconst 1, 1) := by decide +kernel
theorem dX12_tree_10 : decode cX12_tree 10 = .ok (.istore_n 1, 1) := by decide +kernel
theorem dX12_tree_11 : decode cX12_tree 11 = .ok (.iconst 0, 1) := by decide +kernel
theorem dX12_tree_12 : decode cX12_tree 12 = .ok (.istore_n 2, 1) := by decide +kernel
theorem dX12_tree_13 : decode cX12_tree 13 = .ok (.iconst 1, 1) := by decide +kernel
theorem dX12_tree_14 : decode cX12_tree 14 = .ok (.istore_n 3, 1) := by decide +kernel
theorem dX12_tree_15 : decode cX12_tree 15 = .ok (.iload_n 3, 1) := by decide +kernel
theorem dX12_tree_16 : decode cX12_tree 16 = .ok (.aload_n 0, 1) := by decide +kernel
theorem dX12_tree_17 : decode cX12_tree 17 = .ok (.getfield 219, 3) := by decide +kernel
theorem dX12_tree_20 : decode cX12_tree 20 = .ok (.if_icmp .ge 121, 3) := by decide +kernel
theorem dX12_tree_23 : decode cX12_tree 23 = .ok (.iconst (-1), 1) := by decide +kernel
theorem dX12_tree_24 : decode cX12_tree 24 = .ok (.istore 4, 2) := by decide +kernel
theorem dX12_tree_26 : decode cX12_tree 26 = .ok (.iconst 0, 1) := by decide +kernel
theorem dX12_tree_27 : decode cX12_tree 27 = .ok (.istore 5, 2) := by decide +kernel
theorem dX12_tree_29 : decode cX12_tree 29 = .ok (.iconst 0, 1) := by decide +kernel
theorem dX12_tree_30 : decode cX12_tree 30 = .ok (.istore 6, 2) := by decide +kernel
theorem dX12_tree_32 : decode cX12_tree 32 = .ok (.iload 6, 2) := by decide +kernel
theorem dX12_tree_34 : decode cX12_tree 34 = .ok (.aload_n 0, 1) := by decide +kernel
theorem dX12_tree_35 : decode cX12_tree 35 = .ok (.getfield 219, 3) := by decide +kernel
theorem dX12_tree_38 : decode cX12_tree 38 = .ok (.if_icmp .ge 85, 3) := by decide +kernel
theorem dX12_tree_41 : decode cX12_tree 41 = .ok (.iload_n 1, 1) := by decide +kernel
theorem dX12_tree_42 : decode cX12_tree 42 = .ok (.iload 6, 2) := by decide +kernel
theorem dX12_tree_44 : decode cX12_tree 44 = .ok (.invokestatic 250, 3) := by decide +kernel
theorem dX12_tree_47 : decode cX12_tree 47 = .ok (.ifCond .eq 6, 3) := by decide +kernel
theorem dX12_tree_50 : decode cX12_tree 50 = .ok (.goto 67, 3) := by decide +kernel
theorem dX12_tree_53 : decode cX12_tree 53 = .ok (.iconst 0, 1) := by decide +kernel
theorem dX12_tree_54 : decode cX12_tree 54 = .ok (.istore 7, 2) := by decide +kernel
theorem dX12_tree_56 : decode cX12_tree 56 = .ok (.iload 7, 2) := by decide +kernel
theorem dX12_tree_58 : decode cX12_tree 58 = .ok (.aload_n 0, 1) := by decide +kernel
theorem dX12_tree_59 : decode cX12_tree 59 = .ok (.getfield 219, 3) := by decide +kernel
theorem dX12_tree_62 : decode cX12_tree 62 = .ok (.if_icmp .ge 55, 3) := by decide +kernel
theorem dX12_tree_65 : decode cX12_tree 65 = .ok (.bipush 8, 2) := by decide +kernel
theorem dX12_tree_67 : decode cX12_tree 67 = .ok (.aload_n 0, 1) := by decide +kernel
theorem dX12_tree_68 : decode cX12_tree 68 = .ok (.iload 7, 2) := by decide +kernel
theorem dX12_tree_70 : decode cX12_tree 70 = .ok (.iload 6, 2) := by decide +kernel
theorem dX12_tree_72 : decode cX12_tree 72 = .ok (.iconst 0, 1) := by decide +kernel
theorem dX12_tree_73 : decode cX12_tree 73 = .ok (.invokevirtual 459, 3) := by decide +kernel
theorem dX12_tree_76 : decode cX12_tree 76 = .ok (.isub, 1) := by decide +kernel
theorem dX12_tree_77 : decode cX12_tree 77 = .ok (.istore 8, 2) := by decide +kernel
theorem dX12_tree_79 : decode cX12_tree 79 = .ok (.iload_n 1, 1) := by decide +kernel
theorem dX12_tree_80 : decode cX12_tree 80 = .ok (.iload 7, 2) := by decide +kernel
theorem dX12_tree_82 : decode cX12_tree 82 = .ok (.invokestatic 250, 3) := by decide +kernel
theorem dX12_tree_85 : decode cX12_tree 85 = .ok (.ifCond .eq 26, 3) := by decide +kernel
theorem dX12_tree_88 : decode cX12_tree 88 = .ok (.iload 4, 2) := by decide +kernel
theorem dX12_tree_90 : decode cX12_tree 90 = .ok (.ifCond .lt 13, 3) := by decide +kernel
theorem dX12_tree_93 : decode cX12_tree 93 = .ok (.iload 8, 2) := by decide +kernel
theorem dX12_tree_95 : decode cX12_tree 95 = .ok (.iload 5, 2) := by decide +kernel
theorem dX12_tree_97 : decode cX12_tree 97 = .ok (.if_icmp .lt 6, 3) := by decide +kernel
theorem dX12_tree_100 : decode cX12_tree 100 = .ok (.goto 11, 3) := by decide +kernel
theorem dX12_tree_103 : decode cX12_tree 103 = .ok (.iload 6, 2) := by decide +kernel
theorem dX12_tree_105 : decode cX12_tree 105 = .ok (.istore 4, 2) := by decide +kernel
theorem dX12_tree_107 : decode cX12_tree 107 = .ok (.iload 8, 2) := by decide +kernel
theorem dX12_tree_109 : decode cX12_tree 109 = .ok (.istore 5, 2) := by decide +kernel
theorem dX12_tree_111 : decode cX12_tree 111 = .ok (.iinc 7 1, 3) := by decide +kernel
theorem dX12_tree_114 : decode cX12_tree 114 = .ok (.goto (-58), 3) := by decide +kernel
theorem dX12_tree_117 : decode cX12_tree 117 = .ok (.iinc 6 1, 3) := by decide +kernel
theorem dX12_tree_120 : decode cX12_tree 120 = .ok (.goto (-88), 3) := by decide +kernel
theorem dX12_tree_123 : decode cX12_tree 123 = .ok (.iload_n 1, 1) := by decide +kernel
theorem dX12_tree_124 : decode cX12_tree 124 = .ok (.iconst 1, 1) := by decide +kernel
theorem dX12_tree_125 : decode cX12_tree 125 = .ok (.iload 4, 2) := by decide +kernel
theorem dX12_tree_127 : decode cX12_tree 127 = .ok (.ishl, 1) := by decide +kernel
theorem dX12_tree_128 : decode cX12_tree 128 = .ok (.ior, 1) := by decide +kernel
theorem dX12_tree_129 : decode cX12_tree 129 = .ok (.istore_n 1, 1) := by decide +kernel
theorem dX12_tree_130 : decode cX12_tree 130 = .ok (.iload_n 2, 1) := by decide +kernel
theorem dX12_tree_131 : decode cX12_tree 131 = .ok (.iload 5, 2) := by decide +kernel
theorem dX12_tree_133 : decode cX12_tree 133 = .ok (.iadd, 1) := by decide +kernel
theorem dX12_tree_134 : decode cX12_tree 134 = .ok (.istore_n 2, 1) := by decide +kernel
theorem dX12_tree_135 : decode cX12_tree 135 = .ok (.iinc 3 1, 3) := by decide +kernel
theorem dX12_tree_138 : decode cX12_tree 138 = .ok (.goto (-123), 3) := by decide +kernel
theorem dX12_tree_141 : decode cX12_tree 141 = .ok (.iload_n 2, 1) := by decide +kernel
theorem dX12_tree_142 : decode cX12_tree 142 = .ok (.ireturn, 1) := by decide +kernel
theorem dX12_farOf_0 : decode cX12_farOf 0 = .ok (.iconst 1, 1) := by decide +kernel
theorem dX12_farOf_1 : decode cX12_farOf 1 = .ok (.iload_n 1, 1) := by decide +kernel
theorem dX12_farOf_2 : decode cX12_farOf 2 = .ok (.ishl, 1) := by decide +kernel
theorem dX12_farOf_3 : decode cX12_farOf 3 = .ok (.istore_n 3, 1) := by decide +kernel
theorem dX12_farOf_4 : decode cX12_farOf 4 = .ok (.iconst 0, 1) := by decide +kernel
theorem dX12_farOf_5 : decode cX12_farOf 5 = .ok (.istore 4, 2) := by decide +kernel
theorem dX12_farOf_7 : decode cX12_farOf 7 = .ok (.iload 4, 2) := by decide +kernel
theorem dX12_farOf_9 : decode cX12_farOf 9 = .ok (.bipush 6, 2) := by decide +kernel
theorem dX12_farOf_11 : decode cX12_farOf 11 = .ok (.if_icmp .ge 69, 3) := by decide +kernel
theorem dX12_farOf_14 : decode cX12_farOf 14 = .ok (.iload_n 3, 1) := by decide +kernel
theorem dX12_farOf_15 : decode cX12_farOf 15 = .ok (.iload_n 2, 1) := by decide +kernel
theorem dX12_farOf_16 : decode cX12_farOf 16 = .ok (.invokestatic 250, 3) := by decide +kernel
theorem dX12_farOf_19 : decode cX12_farOf 19 = .ok (.ifCond .eq 6, 3) := by decide +kernel
theorem dX12_farOf_22 : decode cX12_farOf 22 = .ok (.iload 4, 2) := by decide +kernel
theorem dX12_farOf_24 : decode cX12_farOf 24 = .ok (.ireturn, 1) := by decide +kernel
theorem dX12_farOf_25 : decode cX12_farOf 25 = .ok (.iload_n 3, 1) := by decide +kernel
theorem dX12_farOf_26 : decode cX12_farOf 26 = .ok (.istore 5, 2) := by decide +kernel
theorem dX12_farOf_28 : decode cX12_farOf 28 = .ok (.iconst 0, 1) := by decide +kernel
theorem dX12_farOf_29 : decode cX12_farOf 29 = .ok (.istore 6, 2) := by decide +kernel
theorem dX12_farOf_31 : decode cX12_farOf 31 = .ok (.iload 6, 2) := by decide +kernel
theorem dX12_farOf_33 : decode cX12_farOf 33 = .ok (.aload_n 0, 1) := by decide +kernel
theorem dX12_farOf_34 : decode cX12_farOf 34 = .ok (.getfield 219, 3) := by decide +kernel
theorem dX12_farOf_37 : decode cX12_farOf 37 = .ok (.if_icmp .ge 34, 3) := by decide +kernel
theorem dX12_farOf_40 : decode cX12_farOf 40 = .ok (.iload 5, 2) := by decide +kernel
theorem dX12_farOf_42 : decode cX12_farOf 42 = .ok (.iload_n 3, 1) := by decide +kernel
theorem dX12_farOf_43 : decode cX12_farOf 43 = .ok (.iload 6, 2) := by decide +kernel
theorem dX12_farOf_45 : decode cX12_farOf 45 = .ok (.invokestatic 250, 3) := by decide +kernel
theorem dX12_farOf_48 : decode cX12_farOf 48 = .ok (.ifCond .eq 13, 3) := by decide +kernel
theorem dX12_farOf_51 : decode cX12_farOf 51 = .ok (.aload_n 0, 1) := by decide +kernel
theorem dX12_farOf_52 : decode cX12_farOf 52 = .ok (.getfield 42, 3) := by decide +kernel
theorem dX12_farOf_55 : decode cX12_farOf 55 = .ok (.iload 6, 2) := by decide +kernel
theorem dX12_farOf_57 : decode cX12_farOf 57 = .ok (.iaload, 1) := by decide +kernel
theorem dX12_farOf_58 : decode cX12_farOf 58 = .ok (.goto 4, 3) := by decide +kernel
theorem dX12_farOf_61 : decode cX12_farOf 61 = .ok (.iconst 0, 1) := by decide +kernel
theorem dX12_farOf_62 : decode cX12_farOf 62 = .ok (.ior, 1) := by decide +kernel
theorem dX12_farOf_63 : decode cX12_farOf 63 = .ok (.istore 5, 2) := by decide +kernel
theorem dX12_farOf_65 : decode cX12_farOf 65 = .ok (.iinc 6 1, 3) := by decide +kernel
theorem dX12_farOf_68 : decode cX12_farOf 68 = .ok (.goto (-37), 3) := by decide +kernel
theorem dX12_farOf_71 : decode cX12_farOf 71 = .ok (.iload 5, 2) := by decide +kernel
theorem dX12_farOf_73 : decode cX12_farOf 73 = .ok (.istore_n 3, 1) := by decide +kernel
theorem dX12_farOf_74 : decode cX12_farOf 74 = .ok (.iinc 4 1, 3) := by decide +kernel
theorem dX12_farOf_77 : decode cX12_farOf 77 = .ok (.goto (-70), 3) := by decide +kernel
theorem dX12_farOf_80 : decode cX12_farOf 80 = .ok (.bipush (-2), 2) := by decide +kernel
theorem dX12_farOf_82 : decode cX12_farOf 82 = .ok (.ireturn, 1) := by decide +kernel
theorem dX12_far_0 : decode cX12_far 0 = .ok (.aload_n 0, 1) := by decide +kernel
theorem dX12_far_1 : decode cX12_far 1 = .ok (.iconst 0, 1) := by decide +kernel
theorem dX12_far_2 : decode cX12_far 2 = .ok (.putfield 139, 3) := by decide +kernel
theorem dX12_far_5 : decode cX12_far 5 = .ok (.aload_n 0, 1) := by decide +kernel
theorem dX12_far_6 : decode cX12_far 6 = .ok (.iload_n 1, 1) := by decide +kernel
theorem dX12_far_7 : decode cX12_far 7 = .ok (.invokevirtual 433, 3) := by decide +kernel
theorem dX12_far_10 : decode cX12_far 10 = .ok (.ifCond .eq 20, 3) := by decide +kernel
theorem dX12_far_13 : decode cX12_far 13 = .ok (.aload_n 0, 1) := by decide +kernel
theorem dX12_far_14 : decode cX12_far 14 = .ok (.iload_n 2, 1) := by decide +kernel
theorem dX12_far_15 : decode cX12_far 15 = .ok (.invokevirtual 433, 3) := by decide +kernel
theorem dX12_far_18 : decode cX12_far 18 = .ok (.ifCond .eq 12, 3) := by decide +kernel
theorem dX12_far_21 : decode cX12_far 21 = .ok (.aload_n 0, 1) := by decide +kernel
theorem dX12_far_22 : decode cX12_far 22 = .ok (.iload_n 1, 1) := by decide +kernel
theorem dX12_far_23 : decode cX12_far 23 = .ok (.iload_n 2, 1) := by decide +kernel
theorem dX12_far_24 : decode cX12_far 24 = .ok (.invokevirtual 471, 3) := by decide +kernel
theorem dX12_far_27 : decode cX12_far 27 = .ok (.goto 4, 3) := by decide +kernel
theorem dX12_far_30 : decode cX12_far 30 = .ok (.iconst (-1), 1) := by decide +kernel
theorem dX12_far_31 : decode cX12_far 31 = .ok (.ireturn, 1) := by decide +kernel
theorem dX12_forged_0 : decode cX12_forged 0 = .ok (.aload_n 0, 1) := by decide +kernel
theorem dX12_forged_1 : decode cX12_forged 1 = .ok (.iconst 0, 1) := by decide +kernel
theorem dX12_forged_2 : decode cX12_forged 2 = .ok (.putfield 139, 3) := by decide +kernel
theorem dX12_forged_5 : decode cX12_forged 5 = .ok (.aload_n 0, 1) := by decide +kernel
theorem dX12_forged_6 : decode cX12_forged 6 = .ok (.invokevirtual 347, 3) := by decide +kernel
theorem dX12_forged_9 : decode cX12_forged 9 = .ok (.iconst 0, 1) := by decide +kernel
theorem dX12_forged_10 : decode cX12_forged 10 = .ok (.istore_n 1, 1) := by decide +kernel
theorem dX12_forged_11 : decode cX12_forged 11 = .ok (.iconst 0, 1) := by decide +kernel
theorem dX12_forged_12 : decode cX12_forged 12 = .ok (.istore_n 2, 1) := by decide +kernel
theorem dX12_forged_13 : decode cX12_forged 13 = .ok (.iload_n 2, 1) := by decide +kernel
theorem dX12_forged_14 : decode cX12_forged 14 = .ok (.aload_n 0, 1) := by decide +kernel
theorem dX12_forged_15 : decode cX12_forged 15 = .ok (.getfield 219, 3) := by decide +kernel
theorem dX12_forged_18 : decode cX12_forged 18 = .ok (.if_icmp .ge 61, 3) := by decide +kernel
theorem dX12_forged_21 : decode cX12_forged 21 = .ok (.iconst 0, 1) := by decide +kernel
theorem dX12_forged_22 : decode cX12_forged 22 = .ok (.istore_n 3, 1) := by decide +kernel
theorem dX12_forged_23 : decode cX12_forged 23 = .ok (.iload_n 3, 1) := by decide +kernel
theorem dX12_forged_24 : decode cX12_forged 24 = .ok (.aload_n 0, 1) := by decide +kernel
theorem dX12_forged_25 : decode cX12_forged 25 = .ok (.getfield 219, 3) := by decide +kernel
theorem dX12_forged_28 : decode cX12_forged 28 = .ok (.if_icmp .ge 45, 3) := by decide +kernel
theorem dX12_forged_31 : decode cX12_forged 31 = .ok (.iload_n 2, 1) := by decide +kernel
theorem dX12_forged_32 : decode cX12_forged 32 = .ok (.iload_n 3, 1) := by decide +kernel
theorem dX12_forged_33 : decode cX12_forged 33 = .ok (.if_icmp .eq 34, 3) := by decide +kernel
theorem dX12_forged_36 : decode cX12_forged 36 = .ok (.aload_n 0, 1) := by decide +kernel
theorem dX12_forged_37 : decode cX12_forged 37 = .ok (.getfield 42, 3) := by decide +kernel
theorem dX12_forged_40 : decode cX12_forged 40 = .ok (.iload_n 2, 1) := by decide +kernel
theorem dX12_forged_41 : decode cX12_forged 41 = .ok (.iaload, 1) := by decide +kernel
theorem dX12_forged_42 : decode cX12_forged 42 = .ok (.iload_n 3, 1) := by decide +kernel
theorem dX12_forged_43 : decode cX12_forged 43 = .ok (.invokestatic 250, 3) := by decide +kernel
theorem dX12_forged_46 : decode cX12_forged 46 = .ok (.ifCond .ne 21, 3) := by decide +kernel
theorem dX12_forged_49 : decode cX12_forged 49 = .ok (.aload_n 0, 1) := by decide +kernel
theorem dX12_forged_50 : decode cX12_forged 50 = .ok (.iload_n 2, 1) := by decide +kernel
theorem dX12_forged_51 : decode cX12_forged 51 = .ok (.iload_n 3, 1) := by decide +kernel
theorem dX12_forged_52 : decode cX12_forged 52 = .ok (.iconst 0, 1) := by decide +kernel
theorem dX12_forged_53 : decode cX12_forged 53 = .ok (.invokevirtual 459, 3) := by decide +kernel
theorem dX12_forged_56 : decode cX12_forged 56 = .ok (.bipush 6, 2) := by decide +kernel
theorem dX12_forged_58 : decode cX12_forged 58 = .ok (.if_icmp .lt 9, 3) := by decide +kernel
theorem dX12_forged_61 : decode cX12_forged 61 = .ok (.iload_n 1, 1) := by decide +kernel
theorem dX12_forged_62 : decode cX12_forged 62 = .ok (.iconst 1, 1) := by decide +kernel
theorem dX12_forged_63 : decode cX12_forged 63 = .ok (.iload_n 2, 1) := by decide +kernel
theorem dX12_forged_64 : decode cX12_forged 64 = .ok (.ishl, 1) := by decide +kernel
theorem dX12_forged_65 : decode cX12_forged 65 = .ok (.ior, 1) := by decide +kernel
theorem dX12_forged_66 : decode cX12_forged 66 = .ok (.istore_n 1, 1) := by decide +kernel
theorem dX12_forged_67 : decode cX12_forged 67 = .ok (.iinc 3 1, 3) := by decide +kernel
theorem dX12_forged_70 : decode cX12_forged 70 = .ok (.goto (-47), 3) := by decide +kernel
theorem dX12_forged_73 : decode cX12_forged 73 = .ok (.iinc 2 1, 3) := by decide +kernel
theorem dX12_forged_76 : decode cX12_forged 76 = .ok (.goto (-63), 3) := by decide +kernel
theorem dX12_forged_79 : decode cX12_forged 79 = .ok (.iload_n 1, 1) := by decide +kernel
theorem dX12_forged_80 : decode cX12_forged 80 = .ok (.ireturn, 1) := by decide +kernel
theorem dX12_isLine_0 : decode cX12_isLine 0 = .ok (.iconst 0, 1) := by decide +kernel
theorem dX12_isLine_1 : decode cX12_isLine 1 = .ok (.istore_n 3, 1) := by decide +kernel
theorem dX12_isLine_2 : decode cX12_isLine 2 = .ok (.iconst (-1), 1) := by decide +kernel
theorem dX12_isLine_3 : decode cX12_isLine 3 = .ok (.istore 4, 2) := by decide +kernel
theorem dX12_isLine_5 : decode cX12_isLine 5 = .ok (.iconst 0, 1) := by decide +kernel
theorem dX12_isLine_6 : decode cX12_isLine 6 = .ok (.istore 5, 2) := by decide +kernel
theorem dX12_isLine_8 : decode cX12_isLine 8 = .ok (.iload 5, 2) := by decide +kernel
theorem dX12_isLine_10 : decode cX12_isLine 10 = .ok (.iload_n 2, 1) := by decide +kernel
theorem dX12_isLine_11 : decode cX12_isLine 11 = .ok (.if_icmp .ge 73, 3) := by decide +kernel
theorem dX12_isLine_14 : decode cX12_isLine 14 = .ok (.iload_n 1, 1) := by decide +kernel
theorem dX12_isLine_15 : decode cX12_isLine 15 = .ok (.aload_n 0, 1) := by decide +kernel
theorem dX12_isLine_16 : decode cX12_isLine 16 = .ok (.getfield 219, 3) := by decide +kernel
theorem dX12_isLine_19 : decode cX12_isLine 19 = .ok (.iload_n 2, 1) := by decide +kernel
theorem dX12_isLine_20 : decode cX12_isLine 20 = .ok (.iconst 1, 1) := by decide +kernel
theorem dX12_isLine_21 : decode cX12_isLine 21 = .ok (.isub, 1) := by decide +kernel
theorem dX12_isLine_22 : decode cX12_isLine 22 = .ok (.iload 5, 2) := by decide +kernel
theorem dX12_isLine_24 : decode cX12_isLine 24 = .ok (.isub, 1) := by decide +kernel
theorem dX12_isLine_25 : decode cX12_isLine 25 = .ok (.invokestatic 462, 3) := by decide +kernel
theorem dX12_isLine_28 : decode cX12_isLine 28 = .ok (.idiv, 1) := by decide +kernel
theorem dX12_isLine_29 : decode cX12_isLine 29 = .ok (.aload_n 0, 1) := by decide +kernel
theorem dX12_isLine_30 : decode cX12_isLine 30 = .ok (.getfield 219, 3) := by decide +kernel
theorem dX12_isLine_33 : decode cX12_isLine 33 = .ok (.irem, 1) := by decide +kernel
theorem dX12_isLine_34 : decode cX12_isLine 34 = .ok (.istore 6, 2) := by decide +kernel
theorem dX12_isLine_36 : decode cX12_isLine 36 = .ok (.iload_n 3, 1) := by decide +kernel
theorem dX12_isLine_37 : decode cX12_isLine 37 = .ok (.iload 6, 2) := by decide +kernel
theorem dX12_isLine_39 : decode cX12_isLine 39 = .ok (.invokestatic 250, 3) := by decide +kernel
theorem dX12_isLine_42 : decode cX12_isLine 42 = .ok (.ifCond .ne 23, 3) := by decide +kernel
theorem dX12_isLine_45 : decode cX12_isLine 45 = .ok (.iload 4, 2) := by decide +kernel
theorem dX12_isLine_47 : decode cX12_isLine 47 = .ok (.ifCond .lt 20, 3) := by decide +kernel
theorem dX12_isLine_50 : decode cX12_isLine 50 = .ok (.aload_n 0, 1) := by decide +kernel
theorem dX12_isLine_51 : decode cX12_isLine 51 = .ok (.getfield 42, 3) := by decide +kernel
theorem dX12_isLine_54 : decode cX12_isLine 54 = .ok (.iload 4, 2) := by decide +kernel
theorem dX12_isLine_56 : decode cX12_isLine 56 = .ok (.iaload, 1) := by decide +kernel
theorem dX12_isLine_57 : decode cX12_isLine 57 = .ok (.iload 6, 2) := by decide +kernel
theorem dX12_isLine_59 : decode cX12_isLine 59 = .ok (.invokestatic 250, 3) := by decide +kernel
theorem dX12_isLine_62 : decode cX12_isLine 62 = .ok (.ifCond .ne 5, 3) := by decide +kernel
theorem dX12_isLine_65 : decode cX12_isLine 65 = .ok (.iconst 0, 1) := by decide +kernel
theorem dX12_isLine_66 : decode cX12_isLine 66 = .ok (.ireturn, 1) := by decide +kernel
theorem dX12_isLine_67 : decode cX12_isLine 67 = .ok (.iload_n 3, 1) := by decide +kernel
theorem dX12_isLine_68 : decode cX12_isLine 68 = .ok (.iconst 1, 1) := by decide +kernel
theorem dX12_isLine_69 : decode cX12_isLine 69 = .ok (.iload 6, 2) := by decide +kernel
theorem dX12_isLine_71 : decode cX12_isLine 71 = .ok (.ishl, 1) := by decide +kernel
theorem dX12_isLine_72 : decode cX12_isLine 72 = .ok (.ior, 1) := by decide +kernel
theorem dX12_isLine_73 : decode cX12_isLine 73 = .ok (.istore_n 3, 1) := by decide +kernel
theorem dX12_isLine_74 : decode cX12_isLine 74 = .ok (.iload 6, 2) := by decide +kernel
theorem dX12_isLine_76 : decode cX12_isLine 76 = .ok (.istore 4, 2) := by decide +kernel
theorem dX12_isLine_78 : decode cX12_isLine 78 = .ok (.iinc 5 1, 3) := by decide +kernel
theorem dX12_isLine_81 : decode cX12_isLine 81 = .ok (.goto (-73), 3) := by decide +kernel
theorem dX12_isLine_84 : decode cX12_isLine 84 = .ok (.iconst 1, 1) := by decide +kernel
theorem dX12_isLine_85 : decode cX12_isLine 85 = .ok (.ireturn, 1) := by decide +kernel
theorem dX12_line_0 : decode cX12_line 0 = .ok (.aload_n 0, 1) := by decide +kernel
theorem dX12_line_1 : decode cX12_line 1 = .ok (.iconst 0, 1) := by decide +kernel
theorem dX12_line_2 : decode cX12_line 2 = .ok (.putfield 139, 3) := by decide +kernel
theorem dX12_line_5 : decode cX12_line 5 = .ok (.iload_n 1, 1) := by decide +kernel
theorem dX12_line_6 : decode cX12_line 6 = .ok (.iconst 0, 1) := by decide +kernel
theorem dX12_line_7 : decode cX12_line 7 = .ok (.bipush 6, 2) := by decide +kernel
theorem dX12_line_9 : decode cX12_line 9 = .ok (.invokestatic 184, 3) := by decide +kernel
theorem dX12_line_12 : decode cX12_line 12 = .ok (.ifCond .ne 5, 3) := by decide +kernel
theorem dX12_line_15 : decode cX12_line 15 = .ok (.iconst (-1), 1) := by decide +kernel
theorem dX12_line_16 : decode cX12_line 16 = .ok (.ireturn, 1) := by decide +kernel
theorem dX12_line_17 : decode cX12_line 17 = .ok (.aload_n 0, 1) := by decide +kernel
theorem dX12_line_18 : decode cX12_line 18 = .ok (.getfield 219, 3) := by decide +kernel
theorem dX12_line_21 : decode cX12_line 21 = .ok (.istore_n 2, 1) := by decide +kernel
theorem dX12_line_22 : decode cX12_line 22 = .ok (.iload_n 2, 1) := by decide +kernel
theorem dX12_line_23 : decode cX12_line 23 = .ok (.ifCond .le 75, 3) := by decide +kernel
theorem dX12_line_26 : decode cX12_line 26 = .ok (.iconst 0, 1) := by decide +kernel
theorem dX12_line_27 : decode cX12_line 27 = .ok (.istore_n 3, 1) := by decide +kernel
theorem dX12_line_28 : decode cX12_line 28 = .ok (.iload_n 3, 1) := by decide +kernel
theorem dX12_line_29 : decode cX12_line 29 = .ok (.aload_n 0, 1) := by decide +kernel
theorem dX12_line_30 : decode cX12_line 30 = .ok (.getfield 219, 3) := by decide +kernel
theorem dX12_line_33 : decode cX12_line 33 = .ok (.iload_n 2, 1) := by decide +kernel
theorem dX12_line_34 : decode cX12_line 34 = .ok (.invokestatic 462, 3) := by decide +kernel
theorem dX12_line_37 : decode cX12_line 37 = .ok (.if_icmp .ge 55, 3) := by decide +kernel
theorem dX12_line_40 : decode cX12_line 40 = .ok (.aload_n 0, 1) := by decide +kernel
theorem dX12_line_41 : decode cX12_line 41 = .ok (.iload_n 3, 1) := by decide +kernel
theorem dX12_line_42 : decode cX12_line 42 = .ok (.iload_n 2, 1) := by decide +kernel
theorem dX12_line_43 : decode cX12_line 43 = .ok (.invokevirtual 474, 3) := by decide +kernel
theorem dX12_line_46 : decode cX12_line 46 = .ok (.ifCond .ne 6, 3) := by decide +kernel
theorem dX12_line_49 : decode cX12_line 49 = .ok (.goto 37, 3) := by decide +kernel
theorem dX12_line_52 : decode cX12_line 52 = .ok (.iload_n 1, 1) := by decide +kernel
theorem dX12_line_53 : decode cX12_line 53 = .ok (.ifCond .ne 5, 3) := by decide +kernel
theorem dX12_line_56 : decode cX12_line 56 = .ok (.iload_n 2, 1) := by decide +kernel
theorem dX12_line_57 : decode cX12_line 57 = .ok (.ireturn, 1) := by decide +kernel
theorem dX12_line_58 : decode cX12_line 58 = .ok (.iload_n 1, 1) := by decide +kernel
theorem dX12_line_59 : decode cX12_line 59 = .ok (.iload_n 2, 1) := by decide +kernel
theorem dX12_line_60 : decode cX12_line 60 = .ok (.if_icmp .le 8, 3) := by decide +kernel
theorem dX12_line_63 : decode cX12_line 63 = .ok (.bipush (-2), 2) := by decide +kernel
theorem dX12_line_65 : decode cX12_line 65 = .ok (.goto 20, 3) := by decide +kernel
theorem dX12_line_68 : decode cX12_line 68 = .ok (.iload_n 3, 1) := by decide +kernel
theorem dX12_line_69 : decode cX12_line 69 = .ok (.aload_n 0, 1) := by decide +kernel
theorem dX12_line_70 : decode cX12_line 70 = .ok (.getfield 219, 3) := by decide +kernel
theorem dX12_line_73 : decode cX12_line 73 = .ok (.iload_n 2, 1) := by decide +kernel
theorem dX12_line_74 : decode cX12_line 74 = .ok (.iload_n 1, 1) := by decide +kernel
theorem dX12_line_75 : decode cX12_line 75 = .ok (.isub, 1) := by decide +kernel
theorem dX12_line_76 : decode cX12_line 76 = .ok (.invokestatic 462, 3) := by decide +kernel
theorem dX12_line_79 : decode cX12_line 79 = .ok (.idiv, 1) := by decide +kernel
theorem dX12_line_80 : decode cX12_line 80 = .ok (.aload_n 0, 1) := by decide +kernel
theorem dX12_line_81 : decode cX12_line 81 = .ok (.getfield 219, 3) := by decide +kernel
theorem dX12_line_84 : decode cX12_line 84 = .ok (.irem, 1) := by decide +kernel
theorem dX12_line_85 : decode cX12_line 85 = .ok (.ireturn, 1) := by decide +kernel
theorem dX12_line_86 : decode cX12_line 86 = .ok (.iinc 3 1, 3) := by decide +kernel
theorem dX12_line_89 : decode cX12_line 89 = .ok (.goto (-61), 3) := by decide +kernel
theorem dX12_line_92 : decode cX12_line 92 = .ok (.iinc 2 (-1), 3) := by decide +kernel
theorem dX12_line_95 : decode cX12_line 95 = .ok (.goto (-73), 3) := by decide +kernel
theorem dX12_line_98 : decode cX12_line 98 = .ok (.iload_n 1, 1) := by decide +kernel
theorem dX12_line_99 : decode cX12_line 99 = .ok (.ifCond .ne 7, 3) := by decide +kernel
theorem dX12_line_102 : decode cX12_line 102 = .ok (.iconst 0, 1) := by decide +kernel
theorem dX12_line_103 : decode cX12_line 103 = .ok (.goto 5, 3) := by decide +kernel
theorem dX12_line_106 : decode cX12_line 106 = .ok (.bipush (-2), 2) := by decide +kernel
theorem dX12_line_108 : decode cX12_line 108 = .ok (.ireturn, 1) := by decide +kernel
theorem dX12_quote_0 : decode cX12_quote 0 = .ok (.aload_n 0, 1) := by decide +kernel
theorem dX12_quote_1 : decode cX12_quote 1 = .ok (.iconst 0, 1) := by decide +kernel
theorem dX12_quote_2 : decode cX12_quote 2 = .ok (.putfield 139, 3) := by decide +kernel
theorem dX12_quote_5 : decode cX12_quote 5 = .ok (.aload_n 0, 1) := by decide +kernel
theorem dX12_quote_6 : decode cX12_quote 6 = .ok (.iload_n 1, 1) := by decide +kernel
theorem dX12_quote_7 : decode cX12_quote 7 = .ok (.invokevirtual 433, 3) := by decide +kernel
theorem dX12_quote_10 : decode cX12_quote 10 = .ok (.ifCond .eq 16, 3) := by decide +kernel
theorem dX12_quote_13 : decode cX12_quote 13 = .ok (.aload_n 0, 1) := by decide +kernel
theorem dX12_quote_14 : decode cX12_quote 14 = .ok (.iload_n 2, 1) := by decide +kernel
theorem dX12_quote_15 : decode cX12_quote 15 = .ok (.invokevirtual 433, 3) := by decide +kernel
theorem dX12_quote_18 : decode cX12_quote 18 = .ok (.ifCond .eq 8, 3) := by decide +kernel
theorem dX12_quote_21 : decode cX12_quote 21 = .ok (.iload_n 1, 1) := by decide +kernel
theorem dX12_quote_22 : decode cX12_quote 22 = .ok (.iload_n 2, 1) := by decide +kernel
theorem dX12_quote_23 : decode cX12_quote 23 = .ok (.if_icmp .ne 5, 3) := by decide +kernel
theorem dX12_quote_26 : decode cX12_quote 26 = .ok (.iconst (-1), 1) := by decide +kernel
theorem dX12_quote_27 : decode cX12_quote 27 = .ok (.ireturn, 1) := by decide +kernel
theorem dX12_quote_28 : decode cX12_quote 28 = .ok (.aload_n 0, 1) := by decide +kernel
theorem dX12_quote_29 : decode cX12_quote 29 = .ok (.invokevirtual 347, 3) := by decide +kernel
theorem dX12_quote_32 : decode cX12_quote 32 = .ok (.iconst 0, 1) := by decide +kernel
theorem dX12_quote_33 : decode cX12_quote 33 = .ok (.istore_n 3, 1) := by decide +kernel
theorem dX12_quote_34 : decode cX12_quote 34 = .ok (.iconst 0, 1) := by decide +kernel
theorem dX12_quote_35 : decode cX12_quote 35 = .ok (.istore 4, 2) := by decide +kernel
theorem dX12_quote_37 : decode cX12_quote 37 = .ok (.iload 4, 2) := by decide +kernel
theorem dX12_quote_39 : decode cX12_quote 39 = .ok (.bipush 8, 2) := by decide +kernel
theorem dX12_quote_41 : decode cX12_quote 41 = .ok (.if_icmp .ge 106, 3) := by decide +kernel
theorem dX12_quote_44 : decode cX12_quote 44 = .ok (.iconst 0, 1) := by decide +kernel
theorem dX12_quote_45 : decode cX12_quote 45 = .ok (.istore 5, 2) := by decide +kernel
theorem dX12_quote_47 : decode cX12_quote 47 = .ok (.iload 5, 2) := by decide +kernel
theorem dX12_quote_49 : decode cX12_quote 49 = .ok (.bipush 8, 2) := by decide +kernel
theorem dX12_quote_51 : decode cX12_quote 51 = .ok (.if_icmp .ge 90, 3) := by decide +kernel
theorem dX12_quote_54 : decode cX12_quote 54 = .ok (.iconst 0, 1) := by decide +kernel
theorem dX12_quote_55 : decode cX12_quote 55 = .ok (.istore 6, 2) := by decide +kernel
theorem dX12_quote_57 : decode cX12_quote 57 = .ok (.iload 4, 2) := by decide +kernel
theorem dX12_quote_59 : decode cX12_quote 59 = .ok (.iload 6, 2) := by decide +kernel
theorem dX12_quote_61 : decode cX12_quote 61 = .ok (.iadd, 1) := by decide +kernel
theorem dX12_quote_62 : decode cX12_quote 62 = .ok (.bipush 8, 2) := by decide +kernel
theorem dX12_quote_64 : decode cX12_quote 64 = .ok (.if_icmp .ge 58, 3) := by decide +kernel
theorem dX12_quote_67 : decode cX12_quote 67 = .ok (.iload 5, 2) := by decide +kernel
theorem dX12_quote_69 : decode cX12_quote 69 = .ok (.iload 6, 2) := by decide +kernel
theorem dX12_quote_71 : decode cX12_quote 71 = .ok (.iadd, 1) := by decide +kernel
theorem dX12_quote_72 : decode cX12_quote 72 = .ok (.bipush 8, 2) := by decide +kernel
theorem dX12_quote_74 : decode cX12_quote 74 = .ok (.if_icmp .ge 48, 3) := by decide +kernel
theorem dX12_quote_77 : decode cX12_quote 77 = .ok (.aload_n 0, 1) := by decide +kernel
theorem dX12_quote_78 : decode cX12_quote 78 = .ok (.iconst 0, 1) := by decide +kernel
theorem dX12_quote_79 : decode cX12_quote 79 = .ok (.iload_n 1, 1) := by decide +kernel
theorem dX12_quote_80 : decode cX12_quote 80 = .ok (.iload 4, 2) := by decide +kernel
theorem dX12_quote_82 : decode cX12_quote 82 = .ok (.iload 6, 2) := by decide +kernel
theorem dX12_quote_84 : decode cX12_quote 84 = .ok (.iadd, 1) := by decide +kernel
theorem dX12_quote_85 : decode cX12_quote 85 = .ok (.invokevirtual 381, 3) := by decide +kernel
theorem dX12_quote_88 : decode cX12_quote 88 = .ok (.ifCond .le 34, 3) := by decide +kernel
theorem dX12_quote_91 : decode cX12_quote 91 = .ok (.aload_n 0, 1) := by decide +kernel
theorem dX12_quote_92 : decode cX12_quote 92 = .ok (.iconst 0, 1) := by decide +kernel
theorem dX12_quote_93 : decode cX12_quote 93 = .ok (.iload_n 1, 1) := by decide +kernel
theorem dX12_quote_94 : decode cX12_quote 94 = .ok (.iload 4, 2) := by decide +kernel
theorem dX12_quote_96 : decode cX12_quote 96 = .ok (.iload 6, 2) := by decide +kernel
theorem dX12_quote_98 : decode cX12_quote 98 = .ok (.iadd, 1) := by decide +kernel
theorem dX12_quote_99 : decode cX12_quote 99 = .ok (.invokevirtual 381, 3) := by decide +kernel
theorem dX12_quote_102 : decode cX12_quote 102 = .ok (.aload_n 0, 1) := by decide +kernel
theorem dX12_quote_103 : decode cX12_quote 103 = .ok (.iconst 0, 1) := by decide +kernel
theorem dX12_quote_104 : decode cX12_quote 104 = .ok (.iload_n 2, 1) := by decide +kernel
theorem dX12_quote_105 : decode cX12_quote 105 = .ok (.iload 5, 2) := by decide +kernel
theorem dX12_quote_107 : decode cX12_quote 107 = .ok (.iload 6, 2) := by decide +kernel
theorem dX12_quote_109 : decode cX12_quote 109 = .ok (.iadd, 1) := by decide +kernel
theorem dX12_quote_110 : decode cX12_quote 110 = .ok (.invokevirtual 381, 3) := by decide +kernel
theorem dX12_quote_113 : decode cX12_quote 113 = .ok (.if_icmp .ne 9, 3) := by decide +kernel
theorem dX12_quote_116 : decode cX12_quote 116 = .ok (.iinc 6 1, 3) := by decide +kernel
theorem dX12_quote_119 : decode cX12_quote 119 = .ok (.goto (-62), 3) := by decide +kernel
theorem dX12_quote_122 : decode cX12_quote 122 = .ok (.iload 6, 2) := by decide +kernel
theorem dX12_quote_124 : decode cX12_quote 124 = .ok (.iload_n 3, 1) := by decide +kernel
theorem dX12_quote_125 : decode cX12_quote 125 = .ok (.if_icmp .le 8, 3) := by decide +kernel
theorem dX12_quote_128 : decode cX12_quote 128 = .ok (.iload 6, 2) := by decide +kernel
theorem dX12_quote_130 : decode cX12_quote 130 = .ok (.goto 4, 3) := by decide +kernel
theorem dX12_quote_133 : decode cX12_quote 133 = .ok (.iload_n 3, 1) := by decide +kernel
theorem dX12_quote_134 : decode cX12_quote 134 = .ok (.istore_n 3, 1) := by decide +kernel
theorem dX12_quote_135 : decode cX12_quote 135 = .ok (.iinc 5 1, 3) := by decide +kernel
theorem dX12_quote_138 : decode cX12_quote 138 = .ok (.goto (-91), 3) := by decide +kernel
theorem dX12_quote_141 : decode cX12_quote 141 = .ok (.iinc 4 1, 3) := by decide +kernel
theorem dX12_quote_144 : decode cX12_quote 144 = .ok (.goto (-107), 3) := by decide +kernel
theorem dX12_quote_147 : decode cX12_quote 147 = .ok (.iload_n 3, 1) := by decide +kernel
theorem dX12_quote_148 : decode cX12_quote 148 = .ok (.ireturn, 1) := by decide +kernel
theorem dX12_merriest_0 : decode cX12_merriest 0 = .ok (.aload_n 0, 1) := by decide +kernel
theorem dX12_merriest_1 : decode cX12_merriest 1 = .ok (.iconst 0, 1) := by decide +kernel
theorem dX12_merriest_2 : decode cX12_merriest 2 = .ok (.putfield 139, 3) := by decide +kernel
theorem dX12_merriest_5 : decode cX12_merriest 5 = .ok (.bipush (-2), 2) := by decide +kernel
theorem dX12_merriest_7 : decode cX12_merriest 7 = .ok (.istore_n 1, 1) := by decide +kernel
theorem dX12_merriest_8 : decode cX12_merriest 8 = .ok (.iconst 0, 1) := by decide +kernel
theorem dX12_merriest_9 : decode cX12_merriest 9 = .ok (.istore_n 2, 1) := by decide +kernel
theorem dX12_merriest_10 : decode cX12_merriest 10 = .ok (.iload_n 2, 1) := by decide +kernel
theorem dX12_merriest_11 : decode cX12_merriest 11 = .ok (.aload_n 0, 1) := by decide +kernel
theorem dX12_merriest_12 : decode cX12_merriest 12 = .ok (.getfield 219, 3) := by decide +kernel
theorem dX12_merriest_15 : decode cX12_merriest 15 = .ok (.if_icmp .ge 43, 3) := by decide +kernel
theorem dX12_merriest_18 : decode cX12_merriest 18 = .ok (.aload_n 0, 1) := by decide +kernel
theorem dX12_merriest_19 : decode cX12_merriest 19 = .ok (.getfield 94, 3) := by decide +kernel
theorem dX12_merriest_22 : decode cX12_merriest 22 = .ok (.iload_n 2, 1) := by decide +kernel
theorem dX12_merriest_23 : decode cX12_merriest 23 = .ok (.iaload, 1) := by decide +kernel
theorem dX12_merriest_24 : decode cX12_merriest 24 = .ok (.ifCond .le 26, 3) := by decide +kernel
theorem dX12_merriest_27 : decode cX12_merriest 27 = .ok (.iload_n 1, 1) := by decide +kernel
theorem dX12_merriest_28 : decode cX12_merriest 28 = .ok (.ifCond .lt 18, 3) := by decide +kernel
theorem dX12_merriest_31 : decode cX12_merriest 31 = .ok (.aload_n 0, 1) := by decide +kernel
theorem dX12_merriest_32 : decode cX12_merriest 32 = .ok (.getfield 94, 3) := by decide +kernel
theorem dX12_merriest_35 : decode cX12_merriest 35 = .ok (.iload_n 2, 1) := by decide +kernel
theorem dX12_merriest_36 : decode cX12_merriest 36 = .ok (.iaload, 1) := by decide +kernel
theorem dX12_merriest_37 : decode cX12_merriest 37 = .ok (.aload_n 0, 1) := by decide +kernel
theorem dX12_merriest_38 : decode cX12_merriest 38 = .ok (.getfield 94, 3) := by decide +kernel
theorem dX12_merriest_41 : decode cX12_merriest 41 = .ok (.iload_n 1, 1) := by decide +kernel
theorem dX12_merriest_42 : decode cX12_merriest 42 = .ok (.iaload, 1) := by decide +kernel
theorem dX12_merriest_43 : decode cX12_merriest 43 = .ok (.if_icmp .le 7, 3) := by decide +kernel
theorem dX12_merriest_46 : decode cX12_merriest 46 = .ok (.iload_n 2, 1) := by decide +kernel
theorem dX12_merriest_47 : decode cX12_merriest 47 = .ok (.goto 4, 3) := by decide +kernel
theorem dX12_merriest_50 : decode cX12_merriest 50 = .ok (.iload_n 1, 1) := by decide +kernel
theorem dX12_merriest_51 : decode cX12_merriest 51 = .ok (.istore_n 1, 1) := by decide +kernel
theorem dX12_merriest_52 : decode cX12_merriest 52 = .ok (.iinc 2 1, 3) := by decide +kernel
theorem dX12_merriest_55 : decode cX12_merriest 55 = .ok (.goto (-45), 3) := by decide +kernel
theorem dX12_merriest_58 : decode cX12_merriest 58 = .ok (.iload_n 1, 1) := by decide +kernel
theorem dX12_merriest_59 : decode cX12_merriest 59 = .ok (.ireturn, 1) := by decide +kernel
theorem dX12_silent_0 : decode cX12_silent 0 = .ok (.aload_n 0, 1) := by decide +kernel
theorem dX12_silent_1 : decode cX12_silent 1 = .ok (.iconst 0, 1) := by decide +kernel
theorem dX12_silent_2 : decode cX12_silent 2 = .ok (.putfield 139, 3) := by decide +kernel
theorem dX12_silent_5 : decode cX12_silent 5 = .ok (.aload_n 0, 1) := by decide +kernel
theorem dX12_silent_6 : decode cX12_silent 6 = .ok (.invokevirtual 347, 3) := by decide +kernel
theorem dX12_silent_9 : decode cX12_silent 9 = .ok (.iconst 0, 1) := by decide +kernel
theorem dX12_silent_10 : decode cX12_silent 10 = .ok (.istore_n 1, 1) := by decide +kernel
theorem dX12_silent_11 : decode cX12_silent 11 = .ok (.iconst 0, 1) := by decide +kernel
theorem dX12_silent_12 : decode cX12_silent 12 = .ok (.istore_n 2, 1) := by decide +kernel
theorem dX12_silent_13 : decode cX12_silent 13 = .ok (.iload_n 2, 1) := by decide +kernel
theorem dX12_silent_14 : decode cX12_silent 14 = .ok (.aload_n 0, 1) := by decide +kernel
theorem dX12_silent_15 : decode cX12_silent 15 = .ok (.getfield 219, 3) := by decide +kernel
theorem dX12_silent_18 : decode cX12_silent 18 = .ok (.if_icmp .ge 28, 3) := by decide +kernel
theorem dX12_silent_21 : decode cX12_silent 21 = .ok (.iload_n 1, 1) := by decide +kernel
theorem dX12_silent_22 : decode cX12_silent 22 = .ok (.aload_n 0, 1) := by decide +kernel
theorem dX12_silent_23 : decode cX12_silent 23 = .ok (.iconst 0, 1) := by decide +kernel
theorem dX12_silent_24 : decode cX12_silent 24 = .ok (.iload_n 2, 1) := by decide +kernel
theorem dX12_silent_25 : decode cX12_silent 25 = .ok (.invokevirtual 421, 3) := by decide +kernel
theorem dX12_silent_28 : decode cX12_silent 28 = .ok (.ifCond .eq 7, 3) := by decide +kernel
theorem dX12_silent_31 : decode cX12_silent 31 = .ok (.iconst 0, 1) := by decide +kernel
theorem dX12_silent_32 : decode cX12_silent 32 = .ok (.goto 6, 3) := by decide +kernel
theorem dX12_silent_35 : decode cX12_silent 35 = .ok (.iconst 1, 1) := by decide +kernel
theorem dX12_silent_36 : decode cX12_silent 36 = .ok (.iload_n 2, 1) := by decide +kernel
theorem dX12_silent_37 : decode cX12_silent 37 = .ok (.ishl, 1) := by decide +kernel
theorem dX12_silent_38 : decode cX12_silent 38 = .ok (.ior, 1) := by decide +kernel
theorem dX12_silent_39 : decode cX12_silent 39 = .ok (.istore_n 1, 1) := by decide +kernel
theorem dX12_silent_40 : decode cX12_silent 40 = .ok (.iinc 2 1, 3) := by decide +kernel
theorem dX12_silent_43 : decode cX12_silent 43 = .ok (.goto (-30), 3) := by decide +kernel
theorem dX12_silent_46 : decode cX12_silent 46 = .ok (.iload_n 1, 1) := by decide +kernel
theorem dX12_silent_47 : decode cX12_silent 47 = .ok (.ireturn, 1) := by decide +kernel
theorem dX12_runDown_0 : decode cX12_runDown 0 = .ok (.aload_n 0, 1) := by decide +kernel
theorem dX12_runDown_1 : decode cX12_runDown 1 = .ok (.iconst 0, 1) := by decide +kernel
theorem dX12_runDown_2 : decode cX12_runDown 2 = .ok (.putfield 139, 3) := by decide +kernel
theorem dX12_runDown_5 : decode cX12_runDown 5 = .ok (.iload_n 1, 1) := by decide +kernel
theorem dX12_runDown_6 : decode cX12_runDown 6 = .ok (.iconst 0, 1) := by decide +kernel
theorem dX12_runDown_7 : decode cX12_runDown 7 = .ok (.bipush 99, 2) := by decide +kernel
theorem dX12_runDown_9 : decode cX12_runDown 9 = .ok (.invokestatic 184, 3) := by decide +kernel
theorem dX12_runDown_12 : decode cX12_runDown 12 = .ok (.ifCond .ne 5, 3) := by decide +kernel
theorem dX12_runDown_15 : decode cX12_runDown 15 = .ok (.iconst (-1), 1) := by decide +kernel
theorem dX12_runDown_16 : decode cX12_runDown 16 = .ok (.ireturn, 1) := by decide +kernel
theorem dX12_runDown_17 : decode cX12_runDown 17 = .ok (.aload_n 0, 1) := by decide +kernel
theorem dX12_runDown_18 : decode cX12_runDown 18 = .ok (.invokevirtual 453, 3) := by decide +kernel
theorem dX12_runDown_21 : decode cX12_runDown 21 = .ok (.aload_n 0, 1) := by decide +kernel
theorem dX12_runDown_22 : decode cX12_runDown 22 = .ok (.iload_n 1, 1) := by decide +kernel
theorem dX12_runDown_23 : decode cX12_runDown 23 = .ok (.invokevirtual 456, 3) := by decide +kernel
theorem dX12_runDown_26 : decode cX12_runDown 26 = .ok (.iconst 0, 1) := by decide +kernel
theorem dX12_runDown_27 : decode cX12_runDown 27 = .ok (.istore_n 2, 1) := by decide +kernel
theorem dX12_runDown_28 : decode cX12_runDown 28 = .ok (.iconst 0, 1) := by decide +kernel
theorem dX12_runDown_29 : decode cX12_runDown 29 = .ok (.istore_n 3, 1) := by decide +kernel
theorem dX12_runDown_30 : decode cX12_runDown 30 = .ok (.iload_n 3, 1) := by decide +kernel
theorem dX12_runDown_31 : decode cX12_runDown 31 = .ok (.aload_n 0, 1) := by decide +kernel
theorem dX12_runDown_32 : decode cX12_runDown 32 = .ok (.getfield 219, 3) := by decide +kernel
theorem dX12_runDown_35 : decode cX12_runDown 35 = .ok (.if_icmp .ge 40, 3) := by decide +kernel
theorem dX12_runDown_38 : decode cX12_runDown 38 = .ok (.iload_n 2, 1) := by decide +kernel
theorem dX12_runDown_39 : decode cX12_runDown 39 = .ok (.aload_n 0, 1) := by decide +kernel
theorem dX12_runDown_40 : decode cX12_runDown 40 = .ok (.getfield 85, 3) := by decide +kernel
theorem dX12_runDown_43 : decode cX12_runDown 43 = .ok (.iload_n 3, 1) := by decide +kernel
theorem dX12_runDown_44 : decode cX12_runDown 44 = .ok (.iaload, 1) := by decide +kernel
theorem dX12_runDown_45 : decode cX12_runDown 45 = .ok (.ifCond .le 21, 3) := by decide +kernel
theorem dX12_runDown_48 : decode cX12_runDown 48 = .ok (.aload_n 0, 1) := by decide +kernel
theorem dX12_runDown_49 : decode cX12_runDown 49 = .ok (.getfield 85, 3) := by decide +kernel
theorem dX12_runDown_52 : decode cX12_runDown 52 = .ok (.bipush 6, 2) := by decide +kernel
theorem dX12_runDown_54 : decode cX12_runDown 54 = .ok (.iload_n 3, 1) := by decide +kernel
theorem dX12_runDown_55 : decode cX12_runDown 55 = .ok (.iadd, 1) := by decide +kernel
theorem dX12_runDown_56 : decode cX12_runDown 56 = .ok (.iaload, 1) := by decide +kernel
theorem dX12_runDown_57 : decode cX12_runDown 57 = .ok (.ifCond .ne 9, 3) := by decide +kernel
theorem dX12_runDown_60 : decode cX12_runDown 60 = .ok (.iconst 1, 1) := by decide +kernel
theorem dX12_runDown_61 : decode cX12_runDown 61 = .ok (.iload_n 3, 1) := by decide +kernel
theorem dX12_runDown_62 : decode cX12_runDown 62 = .ok (.ishl, 1) := by decide +kernel
theorem dX12_runDown_63 : decode cX12_runDown 63 = .ok (.goto 4, 3) := by decide +kernel
theorem dX12_runDown_66 : decode cX12_runDown 66 = .ok (.iconst 0, 1) := by decide +kernel
theorem dX12_runDown_67 : decode cX12_runDown 67 = .ok (.ior, 1) := by decide +kernel
theorem dX12_runDown_68 : decode cX12_runDown 68 = .ok (.istore_n 2, 1) := by decide +kernel
theorem dX12_runDown_69 : decode cX12_runDown 69 = .ok (.iinc 3 1, 3) := by decide +kernel
theorem dX12_runDown_72 : decode cX12_runDown 72 = .ok (.goto (-42), 3) := by decide +kernel
theorem dX12_runDown_75 : decode cX12_runDown 75 = .ok (.iload_n 2, 1) := by decide +kernel
theorem dX12_runDown_76 : decode cX12_runDown 76 = .ok (.ireturn, 1) := by decide +kernel
theorem dX12_stay_0 : decode cX12_stay 0 = .ok (.aload_n 0, 1) := by decide +kernel
theorem dX12_stay_1 : decode cX12_stay 1 = .ok (.iconst 0, 1) := by decide +kernel
theorem dX12_stay_2 : decode cX12_stay 2 = .ok (.putfield 139, 3) := by decide +kernel
theorem dX12_stay_5 : decode cX12_stay 5 = .ok (.iload_n 1, 1) := by decide +kernel
theorem dX12_stay_6 : decode cX12_stay 6 = .ok (.ifCond .lt 13, 3) := by decide +kernel
theorem dX12_stay_9 : decode cX12_stay 9 = .ok (.iload_n 1, 1) := by decide +kernel
theorem dX12_stay_10 : decode cX12_stay 10 = .ok (.iconst 1, 1) := by decide +kernel
theorem dX12_stay_11 : decode cX12_stay 11 = .ok (.aload_n 0, 1) := by decide +kernel
theorem dX12_stay_12 : decode cX12_stay 12 = .ok (.getfield 219, 3) := by decide +kernel
theorem dX12_stay_15 : decode cX12_stay 15 = .ok (.ishl, 1) := by decide +kernel
theorem dX12_stay_16 : decode cX12_stay 16 = .ok (.if_icmp .lt 5, 3) := by decide +kernel
theorem dX12_stay_19 : decode cX12_stay 19 = .ok (.iconst (-1), 1) := by decide +kernel
theorem dX12_stay_20 : decode cX12_stay 20 = .ok (.ireturn, 1) := by decide +kernel
theorem dX12_stay_21 : decode cX12_stay 21 = .ok (.iconst 0, 1) := by decide +kernel
theorem dX12_stay_22 : decode cX12_stay 22 = .ok (.istore_n 2, 1) := by decide +kernel
theorem dX12_stay_23 : decode cX12_stay 23 = .ok (.iconst 0, 1) := by decide +kernel
theorem dX12_stay_24 : decode cX12_stay 24 = .ok (.istore_n 3, 1) := by decide +kernel
theorem dX12_stay_25 : decode cX12_stay 25 = .ok (.iload_n 3, 1) := by decide +kernel
theorem dX12_stay_26 : decode cX12_stay 26 = .ok (.aload_n 0, 1) := by decide +kernel
theorem dX12_stay_27 : decode cX12_stay 27 = .ok (.getfield 219, 3) := by decide +kernel
theorem dX12_stay_30 : decode cX12_stay 30 = .ok (.if_icmp .ge 33, 3) := by decide +kernel
theorem dX12_stay_33 : decode cX12_stay 33 = .ok (.iload_n 2, 1) := by decide +kernel
theorem dX12_stay_34 : decode cX12_stay 34 = .ok (.iload_n 1, 1) := by decide +kernel
theorem dX12_stay_35 : decode cX12_stay 35 = .ok (.iload_n 3, 1) := by decide +kernel
theorem dX12_stay_36 : decode cX12_stay 36 = .ok (.invokestatic 250, 3) := by decide +kernel
theorem dX12_stay_39 : decode cX12_stay 39 = .ok (.ifCond .eq 15, 3) := by decide +kernel
theorem dX12_stay_42 : decode cX12_stay 42 = .ok (.bipush 8, 2) := by decide +kernel
theorem dX12_stay_44 : decode cX12_stay 44 = .ok (.aload_n 0, 1) := by decide +kernel
theorem dX12_stay_45 : decode cX12_stay 45 = .ok (.getfield 33, 3) := by decide +kernel
theorem dX12_stay_48 : decode cX12_stay 48 = .ok (.iload_n 3, 1) := by decide +kernel
theorem dX12_stay_49 : decode cX12_stay 49 = .ok (.iaload, 1) := by decide +kernel
theorem dX12_stay_50 : decode cX12_stay 50 = .ok (.imul, 1) := by decide +kernel
theorem dX12_stay_51 : decode cX12_stay 51 = .ok (.goto 4, 3) := by decide +kernel
theorem dX12_stay_54 : decode cX12_stay 54 = .ok (.iconst 0, 1) := by decide +kernel
theorem dX12_stay_55 : decode cX12_stay 55 = .ok (.iadd, 1) := by decide +kernel
theorem dX12_stay_56 : decode cX12_stay 56 = .ok (.istore_n 2, 1) := by decide +kernel
theorem dX12_stay_57 : decode cX12_stay 57 = .ok (.iinc 3 1, 3) := by decide +kernel
theorem dX12_stay_60 : decode cX12_stay 60 = .ok (.goto (-35), 3) := by decide +kernel
theorem dX12_stay_63 : decode cX12_stay 63 = .ok (.iconst 0, 1) := by decide +kernel
theorem dX12_stay_64 : decode cX12_stay 64 = .ok (.istore_n 3, 1) := by decide +kernel
theorem dX12_stay_65 : decode cX12_stay 65 = .ok (.iconst 0, 1) := by decide +kernel
theorem dX12_stay_66 : decode cX12_stay 66 = .ok (.istore 4, 2) := by decide +kernel
theorem dX12_stay_68 : decode cX12_stay 68 = .ok (.iload 4, 2) := by decide +kernel
theorem dX12_stay_70 : decode cX12_stay 70 = .ok (.aload_n 0, 1) := by decide +kernel
theorem dX12_stay_71 : decode cX12_stay 71 = .ok (.getfield 225, 3) := by decide +kernel
theorem dX12_stay_74 : decode cX12_stay 74 = .ok (.if_icmp .ge 31, 3) := by decide +kernel
theorem dX12_stay_77 : decode cX12_stay 77 = .ok (.iload_n 3, 1) := by decide +kernel
theorem dX12_stay_78 : decode cX12_stay 78 = .ok (.aload_n 0, 1) := by decide +kernel
theorem dX12_stay_79 : decode cX12_stay 79 = .ok (.getfield 48, 3) := by decide +kernel
theorem dX12_stay_82 : decode cX12_stay 82 = .ok (.iload 4, 2) := by decide +kernel
theorem dX12_stay_84 : decode cX12_stay 84 = .ok (.iaload, 1) := by decide +kernel
theorem dX12_stay_85 : decode cX12_stay 85 = .ok (.iload_n 2, 1) := by decide +kernel
theorem dX12_stay_86 : decode cX12_stay 86 = .ok (.if_icmp .lt 10, 3) := by decide +kernel
theorem dX12_stay_89 : decode cX12_stay 89 = .ok (.iconst 1, 1) := by decide +kernel
theorem dX12_stay_90 : decode cX12_stay 90 = .ok (.iload 4, 2) := by decide +kernel
theorem dX12_stay_92 : decode cX12_stay 92 = .ok (.ishl, 1) := by decide +kernel
theorem dX12_stay_93 : decode cX12_stay 93 = .ok (.goto 4, 3) := by decide +kernel
theorem dX12_stay_96 : decode cX12_stay 96 = .ok (.iconst 0, 1) := by decide +kernel
theorem dX12_stay_97 : decode cX12_stay 97 = .ok (.ior, 1) := by decide +kernel
theorem dX12_stay_98 : decode cX12_stay 98 = .ok (.istore_n 3, 1) := by decide +kernel
theorem dX12_stay_99 : decode cX12_stay 99 = .ok (.iinc 4 1, 3) := by decide +kernel
theorem dX12_stay_102 : decode cX12_stay 102 = .ok (.goto (-34), 3) := by decide +kernel
theorem dX12_stay_105 : decode cX12_stay 105 = .ok (.iload_n 3, 1) := by decide +kernel
theorem dX12_stay_106 : decode cX12_stay 106 = .ok (.ireturn, 1) := by decide +kernel
theorem dX12_lasts_0 : decode cX12_lasts 0 = .ok (.aload_n 0, 1) := by decide +kernel
theorem dX12_lasts_1 : decode cX12_lasts 1 = .ok (.iconst 0, 1) := by decide +kernel
theorem dX12_lasts_2 : decode cX12_lasts 2 = .ok (.putfield 139, 3) := by decide +kernel
theorem dX12_lasts_5 : decode cX12_lasts 5 = .ok (.aload_n 0, 1) := by decide +kernel
theorem dX12_lasts_6 : decode cX12_lasts 6 = .ok (.iload_n 1, 1) := by decide +kernel
theorem dX12_lasts_7 : decode cX12_lasts 7 = .ok (.invokevirtual 433, 3) := by decide +kernel
theorem dX12_lasts_10 : decode cX12_lasts 10 = .ok (.ifCond .ne 5, 3) := by decide +kernel
theorem dX12_lasts_13 : decode cX12_lasts 13 = .ok (.iconst (-1), 1) := by decide +kernel
theorem dX12_lasts_14 : decode cX12_lasts 14 = .ok (.ireturn, 1) := by decide +kernel
theorem dX12_lasts_15 : decode cX12_lasts 15 = .ok (.aload_n 0, 1) := by decide +kernel
theorem dX12_lasts_16 : decode cX12_lasts 16 = .ok (.invokevirtual 453, 3) := by decide +kernel
theorem dX12_lasts_19 : decode cX12_lasts 19 = .ok (.iconst 0, 1) := by decide +kernel
theorem dX12_lasts_20 : decode cX12_lasts 20 = .ok (.istore_n 2, 1) := by decide +kernel
theorem dX12_lasts_21 : decode cX12_lasts 21 = .ok (.iload_n 2, 1) := by decide +kernel
theorem dX12_lasts_22 : decode cX12_lasts 22 = .ok (.sipush 999, 3) := by decide +kernel
theorem dX12_lasts_25 : decode cX12_lasts 25 = .ok (.if_icmp .gt 28, 3) := by decide +kernel
theorem dX12_lasts_28 : decode cX12_lasts 28 = .ok (.aload_n 0, 1) := by decide +kernel
theorem dX12_lasts_29 : decode cX12_lasts 29 = .ok (.getfield 85, 3) := by decide +kernel
theorem dX12_lasts_32 : decode cX12_lasts 32 = .ok (.bipush 6, 2) := by decide +kernel
theorem dX12_lasts_34 : decode cX12_lasts 34 = .ok (.iload_n 1, 1) := by decide +kernel
theorem dX12_lasts_35 : decode cX12_lasts 35 = .ok (.iadd, 1) := by decide +kernel
theorem dX12_lasts_36 : decode cX12_lasts 36 = .ok (.iaload, 1) := by decide +kernel
theorem dX12_lasts_37 : decode cX12_lasts 37 = .ok (.ifCond .ne 5, 3) := by decide +kernel
theorem dX12_lasts_40 : decode cX12_lasts 40 = .ok (.iload_n 2, 1) := by decide +kernel
theorem dX12_lasts_41 : decode cX12_lasts 41 = .ok (.ireturn, 1) := by decide +kernel
theorem dX12_lasts_42 : decode cX12_lasts 42 = .ok (.aload_n 0, 1) := by decide +kernel
theorem dX12_lasts_43 : decode cX12_lasts 43 = .ok (.iconst 1, 1) := by decide +kernel
theorem dX12_lasts_44 : decode cX12_lasts 44 = .ok (.invokevirtual 430, 3) := by decide +kernel
theorem dX12_lasts_47 : decode cX12_lasts 47 = .ok (.iinc 2 1, 3) := by decide +kernel
theorem dX12_lasts_50 : decode cX12_lasts 50 = .ok (.goto (-29), 3) := by decide +kernel
theorem dX12_lasts_53 : decode cX12_lasts 53 = .ok (.bipush (-2), 2) := by decide +kernel
theorem dX12_lasts_55 : decode cX12_lasts 55 = .ok (.ireturn, 1) := by decide +kernel
theorem dX12_winds_0 : decode cX12_winds 0 = .ok (.iload_n 1, 1) := by decide +kernel
theorem dX12_winds_1 : decode cX12_winds 1 = .ok (.aload_n 0, 1) := by decide +kernel
theorem dX12_winds_2 : decode cX12_winds 2 = .ok (.getfield 219, 3) := by decide +kernel
theorem dX12_winds_5 : decode cX12_winds 5 = .ok (.if_icmp .lt 4, 3) := by decide +kernel
theorem dX12_winds_8 : decode cX12_winds 8 = .ok (.return_, 1) := by decide +kernel
theorem dX12_winds_9 : decode cX12_winds 9 = .ok (.aload_n 0, 1) := by decide +kernel
theorem dX12_winds_10 : decode cX12_winds 10 = .ok (.getfield 85, 3) := by decide +kernel
theorem dX12_winds_13 : decode cX12_winds 13 = .ok (.bipush 6, 2) := by decide +kernel
theorem dX12_winds_15 : decode cX12_winds 15 = .ok (.iload_n 1, 1) := by decide +kernel
theorem dX12_winds_16 : decode cX12_winds 16 = .ok (.iadd, 1) := by decide +kernel
theorem dX12_winds_17 : decode cX12_winds 17 = .ok (.aload_n 0, 1) := by decide +kernel
theorem dX12_winds_18 : decode cX12_winds 18 = .ok (.getfield 85, 3) := by decide +kernel
theorem dX12_winds_21 : decode cX12_winds 21 = .ok (.bipush 6, 2) := by decide +kernel
theorem dX12_winds_23 : decode cX12_winds 23 = .ok (.iload_n 1, 1) := by decide +kernel
theorem dX12_winds_24 : decode cX12_winds 24 = .ok (.iadd, 1) := by decide +kernel
theorem dX12_winds_25 : decode cX12_winds 25 = .ok (.iaload, 1) := by decide +kernel
theorem dX12_winds_26 : decode cX12_winds 26 = .ok (.iload_n 2, 1) := by decide +kernel
theorem dX12_winds_27 : decode cX12_winds 27 = .ok (.iadd, 1) := by decide +kernel
theorem dX12_winds_28 : decode cX12_winds 28 = .ok (.bipush 99, 2) := by decide +kernel
theorem dX12_winds_30 : decode cX12_winds 30 = .ok (.if_icmp .le 8, 3) := by decide +kernel
theorem dX12_winds_33 : decode cX12_winds 33 = .ok (.bipush 99, 2) := by decide +kernel
theorem dX12_winds_35 : decode cX12_winds 35 = .ok (.goto 14, 3) := by decide +kernel
theorem dX12_winds_38 : decode cX12_winds 38 = .ok (.aload_n 0, 1) := by decide +kernel
theorem dX12_winds_39 : decode cX12_winds 39 = .ok (.getfield 85, 3) := by decide +kernel
theorem dX12_winds_42 : decode cX12_winds 42 = .ok (.bipush 6, 2) := by decide +kernel
theorem dX12_winds_44 : decode cX12_winds 44 = .ok (.iload_n 1, 1) := by decide +kernel
theorem dX12_winds_45 : decode cX12_winds 45 = .ok (.iadd, 1) := by decide +kernel
theorem dX12_winds_46 : decode cX12_winds 46 = .ok (.iaload, 1) := by decide +kernel
theorem dX12_winds_47 : decode cX12_winds 47 = .ok (.iload_n 2, 1) := by decide +kernel
theorem dX12_winds_48 : decode cX12_winds 48 = .ok (.iadd, 1) := by decide +kernel
theorem dX12_winds_49 : decode cX12_winds 49 = .ok (.iastore, 1) := by decide +kernel
theorem dX12_winds_50 : decode cX12_winds 50 = .ok (.return_, 1) := by decide +kernel
theorem dX12_winding_0 : decode cX12_winding 0 = .ok (.aload_n 0, 1) := by decide +kernel
theorem dX12_winding_1 : decode cX12_winding 1 = .ok (.iconst 0, 1) := by decide +kernel
theorem dX12_winding_2 : decode cX12_winding 2 = .ok (.putfield 139, 3) := by decide +kernel
theorem dX12_winding_5 : decode cX12_winding 5 = .ok (.iload_n 1, 1) := by decide +kernel
theorem dX12_winding_6 : decode cX12_winding 6 = .ok (.iconst 1, 1) := by decide +kernel
theorem dX12_winding_7 : decode cX12_winding 7 = .ok (.bipush 20, 2) := by decide +kernel
theorem dX12_winding_9 : decode cX12_winding 9 = .ok (.invokestatic 184, 3) := by decide +kernel
theorem dX12_winding_12 : decode cX12_winding 12 = .ok (.ifCond .eq 22, 3) := by decide +kernel
theorem dX12_winding_15 : decode cX12_winding 15 = .ok (.iload_n 2, 1) := by decide +kernel
theorem dX12_winding_16 : decode cX12_winding 16 = .ok (.iconst 0, 1) := by decide +kernel
theorem dX12_winding_17 : decode cX12_winding 17 = .ok (.bipush 9, 2) := by decide +kernel
theorem dX12_winding_19 : decode cX12_winding 19 = .ok (.invokestatic 184, 3) := by decide +kernel
theorem dX12_winding_22 : decode cX12_winding 22 = .ok (.ifCond .eq 12, 3) := by decide +kernel
theorem dX12_winding_25 : decode cX12_winding 25 = .ok (.iload_n 3, 1) := by decide +kernel
theorem dX12_winding_26 : decode cX12_winding 26 = .ok (.iconst 0, 1) := by decide +kernel
theorem dX12_winding_27 : decode cX12_winding 27 = .ok (.iconst 3, 1) := by decide +kernel
theorem dX12_winding_28 : decode cX12_winding 28 = .ok (.invokestatic 184, 3) := by decide +kernel
theorem dX12_winding_31 : decode cX12_winding 31 = .ok (.ifCond .ne 5, 3) := by decide +kernel
theorem dX12_winding_34 : decode cX12_winding 34 = .ok (.iconst (-1), 1) := by decide +kernel
theorem dX12_winding_35 : decode cX12_winding 35 = .ok (.ireturn, 1) := by decide +kernel
theorem dX12_winding_36 : decode cX12_winding 36 = .ok (.iload_n 3, 1) := by decide +kernel
theorem dX12_winding_37 : decode cX12_winding 37 = .ok (.iconst 3, 1) := by decide +kernel
theorem dX12_winding_38 : decode cX12_winding 38 = .ok (.if_icmp .ge 14, 3) := by decide +kernel
theorem dX12_winding_41 : decode cX12_winding 41 = .ok (.iload_n 3, 1) := by decide +kernel
theorem dX12_winding_42 : decode cX12_winding 42 = .ok (.aload_n 0, 1) := by decide +kernel
theorem dX12_winding_43 : decode cX12_winding 43 = .ok (.getfield 219, 3) := by decide +kernel
theorem dX12_winding_46 : decode cX12_winding 46 = .ok (.if_icmp .lt 6, 3) := by decide +kernel
theorem dX12_winding_49 : decode cX12_winding 49 = .ok (.bipush (-2), 2) := by decide +kernel
theorem dX12_winding_51 : decode cX12_winding 51 = .ok (.ireturn, 1) := by decide +kernel
theorem dX12_winding_52 : decode cX12_winding 52 = .ok (.iconst (-1), 1) := by decide +kernel
theorem dX12_winding_53 : decode cX12_winding 53 = .ok (.istore 4, 2) := by decide +kernel
theorem dX12_winding_55 : decode cX12_winding 55 = .ok (.iconst 0, 1) := by decide +kernel
theorem dX12_winding_56 : decode cX12_winding 56 = .ok (.istore 5, 2) := by decide +kernel
theorem dX12_winding_58 : decode cX12_winding 58 = .ok (.iconst 0, 1) := by decide +kernel
theorem dX12_winding_59 : decode cX12_winding 59 = .ok (.istore 6, 2) := by decide +kernel
theorem dX12_winding_61 : decode cX12_winding 61 = .ok (.iload 6, 2) := by decide +kernel
theorem dX12_winding_63 : decode cX12_winding 63 = .ok (.sipush 1000, 3) := by decide +kernel
theorem dX12_winding_66 : decode cX12_winding 66 = .ok (.if_icmp .ge 153, 3) := by decide +kernel
theorem dX12_winding_69 : decode cX12_winding 69 = .ok (.iload 6, 2) := by decide +kernel
theorem dX12_winding_71 : decode cX12_winding 71 = .ok (.bipush 100, 2) := by decide +kernel
theorem dX12_winding_73 : decode cX12_winding 73 = .ok (.idiv, 1) := by decide +kernel
theorem dX12_winding_74 : decode cX12_winding 74 = .ok (.istore 7, 2) := by decide +kernel
theorem dX12_winding_76 : decode cX12_winding 76 = .ok (.iload 6, 2) := by decide +kernel
theorem dX12_winding_78 : decode cX12_winding 78 = .ok (.bipush 10, 2) := by decide +kernel
theorem dX12_winding_80 : decode cX12_winding 80 = .ok (.idiv, 1) := by decide +kernel
theorem dX12_winding_81 : decode cX12_winding 81 = .ok (.bipush 10, 2) := by decide +kernel
theorem dX12_winding_83 : decode cX12_winding 83 = .ok (.irem, 1) := by decide +kernel
theorem dX12_winding_84 : decode cX12_winding 84 = .ok (.istore 8, 2) := by decide +kernel
theorem dX12_winding_86 : decode cX12_winding 86 = .ok (.iload 6, 2) := by decide +kernel
theorem dX12_winding_88 : decode cX12_winding 88 = .ok (.bipush 10, 2) := by decide +kernel
theorem dX12_winding_90 : decode cX12_winding 90 = .ok (.irem, 1) := by decide +kernel
theorem dX12_winding_91 : decode cX12_winding 91 = .ok (.istore 9, 2) := by decide +kernel
theorem dX12_winding_93 : decode cX12_winding 93 = .ok (.iload 7, 2) := by decide +kernel
theorem dX12_winding_95 : decode cX12_winding 95 = .ok (.iload 8, 2) := by decide +kernel
theorem dX12_winding_97 : decode cX12_winding 97 = .ok (.iadd, 1) := by decide +kernel
theorem dX12_winding_98 : decode cX12_winding 98 = .ok (.iload 9, 2) := by decide +kernel
theorem dX12_winding_100 : decode cX12_winding 100 = .ok (.iadd, 1) := by decide +kernel
theorem dX12_winding_101 : decode cX12_winding 101 = .ok (.iload_n 2, 1) := by decide +kernel
theorem dX12_winding_102 : decode cX12_winding 102 = .ok (.if_icmp .gt 111, 3) := by decide +kernel
theorem dX12_winding_105 : decode cX12_winding 105 = .ok (.aload_n 0, 1) := by decide +kernel
theorem dX12_winding_106 : decode cX12_winding 106 = .ok (.getfield 219, 3) := by decide +kernel
theorem dX12_winding_109 : decode cX12_winding 109 = .ok (.iconst 3, 1) := by decide +kernel
theorem dX12_winding_110 : decode cX12_winding 110 = .ok (.if_icmp .ge 8, 3) := by decide +kernel
theorem dX12_winding_113 : decode cX12_winding 113 = .ok (.iload 9, 2) := by decide +kernel
theorem dX12_winding_115 : decode cX12_winding 115 = .ok (.ifCond .gt 98, 3) := by decide +kernel
theorem dX12_winding_118 : decode cX12_winding 118 = .ok (.aload_n 0, 1) := by decide +kernel
theorem dX12_winding_119 : decode cX12_winding 119 = .ok (.getfield 219, 3) := by decide +kernel
theorem dX12_winding_122 : decode cX12_winding 122 = .ok (.iconst 2, 1) := by decide +kernel
theorem dX12_winding_123 : decode cX12_winding 123 = .ok (.if_icmp .ge 8, 3) := by decide +kernel
theorem dX12_winding_126 : decode cX12_winding 126 = .ok (.iload 8, 2) := by decide +kernel
theorem dX12_winding_128 : decode cX12_winding 128 = .ok (.ifCond .gt 85, 3) := by decide +kernel
theorem dX12_winding_131 : decode cX12_winding 131 = .ok (.aload_n 0, 1) := by decide +kernel
theorem dX12_winding_132 : decode cX12_winding 132 = .ok (.getfield 219, 3) := by decide +kernel
theorem dX12_winding_135 : decode cX12_winding 135 = .ok (.iconst 1, 1) := by decide +kernel
theorem dX12_winding_136 : decode cX12_winding 136 = .ok (.if_icmp .ge 11, 3) := by decide +kernel
theorem dX12_winding_139 : decode cX12_winding 139 = .ok (.iload 7, 2) := by decide +kernel
theorem dX12_winding_141 : decode cX12_winding 141 = .ok (.ifCond .le 6, 3) := by decide +kernel
theorem dX12_winding_144 : decode cX12_winding 144 = .ok (.goto 69, 3) := by decide +kernel
theorem dX12_winding_147 : decode cX12_winding 147 = .ok (.aload_n 0, 1) := by decide +kernel
theorem dX12_winding_148 : decode cX12_winding 148 = .ok (.invokevirtual 453, 3) := by decide +kernel
theorem dX12_winding_151 : decode cX12_winding 151 = .ok (.aload_n 0, 1) := by decide +kernel
theorem dX12_winding_152 : decode cX12_winding 152 = .ok (.iconst 0, 1) := by decide +kernel
theorem dX12_winding_153 : decode cX12_winding 153 = .ok (.iload 7, 2) := by decide +kernel
theorem dX12_winding_155 : decode cX12_winding 155 = .ok (.invokevirtual 477, 3) := by decide +kernel
theorem dX12_winding_158 : decode cX12_winding 158 = .ok (.aload_n 0, 1) := by decide +kernel
theorem dX12_winding_159 : decode cX12_winding 159 = .ok (.iconst 1, 1) := by decide +kernel
theorem dX12_winding_160 : decode cX12_winding 160 = .ok (.iload 8, 2) := by decide +kernel
theorem dX12_winding_162 : decode cX12_winding 162 = .ok (.invokevirtual 477, 3) := by decide +kernel
theorem dX12_winding_165 : decode cX12_winding 165 = .ok (.aload_n 0, 1) := by decide +kernel
theorem dX12_winding_166 : decode cX12_winding 166 = .ok (.iconst 2, 1) := by decide +kernel
theorem dX12_winding_167 : decode cX12_winding 167 = .ok (.iload 9, 2) := by decide +kernel
theorem dX12_winding_169 : decode cX12_winding 169 = .ok (.invokevirtual 477, 3) := by decide +kernel
theorem dX12_winding_172 : decode cX12_winding 172 = .ok (.aload_n 0, 1) := by decide +kernel
theorem dX12_winding_173 : decode cX12_winding 173 = .ok (.iload_n 1, 1) := by decide +kernel
theorem dX12_winding_174 : decode cX12_winding 174 = .ok (.invokevirtual 456, 3) := by decide +kernel
theorem dX12_winding_177 : decode cX12_winding 177 = .ok (.aload_n 0, 1) := by decide +kernel
theorem dX12_winding_178 : decode cX12_winding 178 = .ok (.iconst 1, 1) := by decide +kernel
theorem dX12_winding_179 : decode cX12_winding 179 = .ok (.invokevirtual 480, 3) := by decide +kernel
theorem dX12_winding_182 : decode cX12_winding 182 = .ok (.aload_n 0, 1) := by decide +kernel
theorem dX12_winding_183 : decode cX12_winding 183 = .ok (.iconst 0, 1) := by decide +kernel
theorem dX12_winding_184 : decode cX12_winding 184 = .ok (.invokevirtual 480, 3) := by decide +kernel
theorem dX12_winding_187 : decode cX12_winding 187 = .ok (.isub, 1) := by decide +kernel
theorem dX12_winding_188 : decode cX12_winding 188 = .ok (.istore 10, 2) := by decide +kernel
theorem dX12_winding_190 : decode cX12_winding 190 = .ok (.iload 4, 2) := by decide +kernel
theorem dX12_winding_192 : decode cX12_winding 192 = .ok (.ifCond .lt 13, 3) := by decide +kernel
theorem dX12_winding_195 : decode cX12_winding 195 = .ok (.iload 10, 2) := by decide +kernel
theorem dX12_winding_197 : decode cX12_winding 197 = .ok (.iload 5, 2) := by decide +kernel
theorem dX12_winding_199 : decode cX12_winding 199 = .ok (.if_icmp .gt 6, 3) := by decide +kernel
theorem dX12_winding_202 : decode cX12_winding 202 = .ok (.goto 11, 3) := by decide +kernel
theorem dX12_winding_205 : decode cX12_winding 205 = .ok (.iload 6, 2) := by decide +kernel
theorem dX12_winding_207 : decode cX12_winding 207 = .ok (.istore 4, 2) := by decide +kernel
theorem dX12_winding_209 : decode cX12_winding 209 = .ok (.iload 10, 2) := by decide +kernel
theorem dX12_winding_211 : decode cX12_winding 211 = .ok (.istore 5, 2) := by decide +kernel
theorem dX12_winding_213 : decode cX12_winding 213 = .ok (.iinc 6 1, 3) := by decide +kernel
theorem dX12_winding_216 : decode cX12_winding 216 = .ok (.goto (-155), 3) := by decide +kernel
theorem dX12_winding_219 : decode cX12_winding 219 = .ok (.iload_n 3, 1) := by decide +kernel
theorem dX12_winding_220 : decode cX12_winding 220 = .ok (.iconst 3, 1) := by decide +kernel
theorem dX12_winding_221 : decode cX12_winding 221 = .ok (.if_icmp .ne 8, 3) := by decide +kernel
theorem dX12_winding_224 : decode cX12_winding 224 = .ok (.iload 5, 2) := by decide +kernel
theorem dX12_winding_226 : decode cX12_winding 226 = .ok (.goto 36, 3) := by decide +kernel
theorem dX12_winding_229 : decode cX12_winding 229 = .ok (.iload_n 3, 1) := by decide +kernel
theorem dX12_winding_230 : decode cX12_winding 230 = .ok (.ifCond .ne 11, 3) := by decide +kernel
theorem dX12_winding_233 : decode cX12_winding 233 = .ok (.iload 4, 2) := by decide +kernel
theorem dX12_winding_235 : decode cX12_winding 235 = .ok (.bipush 100, 2) := by decide +kernel
theorem dX12_winding_237 : decode cX12_winding 237 = .ok (.idiv, 1) := by decide +kernel
theorem dX12_winding_238 : decode cX12_winding 238 = .ok (.goto 24, 3) := by decide +kernel
theorem dX12_winding_241 : decode cX12_winding 241 = .ok (.iload_n 3, 1) := by decide +kernel
theorem dX12_winding_242 : decode cX12_winding 242 = .ok (.iconst 1, 1) := by decide +kernel
theorem dX12_winding_243 : decode cX12_winding 243 = .ok (.if_icmp .ne 14, 3) := by decide +kernel
theorem dX12_winding_246 : decode cX12_winding 246 = .ok (.iload 4, 2) := by decide +kernel
theorem dX12_winding_248 : decode cX12_winding 248 = .ok (.bipush 10, 2) := by decide +kernel
theorem dX12_winding_250 : decode cX12_winding 250 = .ok (.idiv, 1) := by decide +kernel
theorem dX12_winding_251 : decode cX12_winding 251 = .ok (.bipush 10, 2) := by decide +kernel
theorem dX12_winding_253 : decode cX12_winding 253 = .ok (.irem, 1) := by decide +kernel
theorem dX12_winding_254 : decode cX12_winding 254 = .ok (.goto 8, 3) := by decide +kernel
theorem dX12_winding_257 : decode cX12_winding 257 = .ok (.iload 4, 2) := by decide +kernel
theorem dX12_winding_259 : decode cX12_winding 259 = .ok (.bipush 10, 2) := by decide +kernel
theorem dX12_winding_261 : decode cX12_winding 261 = .ok (.irem, 1) := by decide +kernel
theorem dX12_winding_262 : decode cX12_winding 262 = .ok (.ireturn, 1) := by decide +kernel
theorem dX12_laughBack_0 : decode cX12_laughBack 0 = .ok (.aload_n 0, 1) := by decide +kernel
theorem dX12_laughBack_1 : decode cX12_laughBack 1 = .ok (.iconst 0, 1) := by decide +kernel
theorem dX12_laughBack_2 : decode cX12_laughBack 2 = .ok (.putfield 139, 3) := by decide +kernel
theorem dX12_laughBack_5 : decode cX12_laughBack 5 = .ok (.aload_n 0, 1) := by decide +kernel
theorem dX12_laughBack_6 : decode cX12_laughBack 6 = .ok (.iload_n 1, 1) := by decide +kernel
theorem dX12_laughBack_7 : decode cX12_laughBack 7 = .ok (.invokevirtual 433, 3) := by decide +kernel
theorem dX12_laughBack_10 : decode cX12_laughBack 10 = .ok (.ifCond .ne 5, 3) := by decide +kernel
theorem dX12_laughBack_13 : decode cX12_laughBack 13 = .ok (.iconst (-1), 1) := by decide +kernel
theorem dX12_laughBack_14 : decode cX12_laughBack 14 = .ok (.ireturn, 1) := by decide +kernel
theorem dX12_laughBack_15 : decode cX12_laughBack 15 = .ok (.aload_n 0, 1) := by decide +kernel
theorem dX12_laughBack_16 : decode cX12_laughBack 16 = .ok (.iconst 0, 1) := by decide +kernel
theorem dX12_laughBack_17 : decode cX12_laughBack 17 = .ok (.iload_n 1, 1) := by decide +kernel
theorem dX12_laughBack_18 : decode cX12_laughBack 18 = .ok (.invokevirtual 471, 3) := by decide +kernel
theorem dX12_laughBack_21 : decode cX12_laughBack 21 = .ok (.istore_n 2, 1) := by decide +kernel
theorem dX12_laughBack_22 : decode cX12_laughBack 22 = .ok (.iconst 0, 1) := by decide +kernel
theorem dX12_laughBack_23 : decode cX12_laughBack 23 = .ok (.istore_n 3, 1) := by decide +kernel
theorem dX12_laughBack_24 : decode cX12_laughBack 24 = .ok (.iconst 0, 1) := by decide +kernel
theorem dX12_laughBack_25 : decode cX12_laughBack 25 = .ok (.istore 4, 2) := by decide +kernel
theorem dX12_laughBack_27 : decode cX12_laughBack 27 = .ok (.iload 4, 2) := by decide +kernel
theorem dX12_laughBack_29 : decode cX12_laughBack 29 = .ok (.aload_n 0, 1) := by decide +kernel
theorem dX12_laughBack_30 : decode cX12_laughBack 30 = .ok (.getfield 225, 3) := by decide +kernel
theorem dX12_laughBack_33 : decode cX12_laughBack 33 = .ok (.if_icmp .ge 54, 3) := by decide +kernel
theorem dX12_laughBack_36 : decode cX12_laughBack 36 = .ok (.iload_n 3, 1) := by decide +kernel
theorem dX12_laughBack_37 : decode cX12_laughBack 37 = .ok (.iload_n 2, 1) := by decide +kernel
theorem dX12_laughBack_38 : decode cX12_laughBack 38 = .ok (.ifCond .lt 40, 3) := by decide +kernel
theorem dX12_laughBack_41 : decode cX12_laughBack 41 = .ok (.aload_n 0, 1) := by decide +kernel
theorem dX12_laughBack_42 : decode cX12_laughBack 42 = .ok (.getfield 51, 3) := by decide +kernel
theorem dX12_laughBack_45 : decode cX12_laughBack 45 = .ok (.iload 4, 2) := by decide +kernel
theorem dX12_laughBack_47 : decode cX12_laughBack 47 = .ok (.iaload, 1) := by decide +kernel
theorem dX12_laughBack_48 : decode cX12_laughBack 48 = .ok (.iload_n 2, 1) := by decide +kernel
theorem dX12_laughBack_49 : decode cX12_laughBack 49 = .ok (.if_icmp .lt 29, 3) := by decide +kernel
theorem dX12_laughBack_52 : decode cX12_laughBack 52 = .ok (.aload_n 0, 1) := by decide +kernel
theorem dX12_laughBack_53 : decode cX12_laughBack 53 = .ok (.getfield 48, 3) := by decide +kernel
theorem dX12_laughBack_56 : decode cX12_laughBack 56 = .ok (.iload 4, 2) := by decide +kernel
theorem dX12_laughBack_58 : decode cX12_laughBack 58 = .ok (.iaload, 1) := by decide +kernel
theorem dX12_laughBack_59 : decode cX12_laughBack 59 = .ok (.bipush 8, 2) := by decide +kernel
theorem dX12_laughBack_61 : decode cX12_laughBack 61 = .ok (.aload_n 0, 1) := by decide +kernel
theorem dX12_laughBack_62 : decode cX12_laughBack 62 = .ok (.getfield 33, 3) := by decide +kernel
theorem dX12_laughBack_65 : decode cX12_laughBack 65 = .ok (.iload_n 1, 1) := by decide +kernel
theorem dX12_laughBack_66 : decode cX12_laughBack 66 = .ok (.iaload, 1) := by decide +kernel
theorem dX12_laughBack_67 : decode cX12_laughBack 67 = .ok (.imul, 1) := by decide +kernel
theorem dX12_laughBack_68 : decode cX12_laughBack 68 = .ok (.if_icmp .lt 10, 3) := by decide +kernel
theorem dX12_laughBack_71 : decode cX12_laughBack 71 = .ok (.iconst 1, 1) := by decide +kernel
theorem dX12_laughBack_72 : decode cX12_laughBack 72 = .ok (.iload 4, 2) := by decide +kernel
theorem dX12_laughBack_74 : decode cX12_laughBack 74 = .ok (.ishl, 1) := by decide +kernel
theorem dX12_laughBack_75 : decode cX12_laughBack 75 = .ok (.goto 4, 3) := by decide +kernel
theorem dX12_laughBack_78 : decode cX12_laughBack 78 = .ok (.iconst 0, 1) := by decide +kernel
theorem dX12_laughBack_79 : decode cX12_laughBack 79 = .ok (.ior, 1) := by decide +kernel
theorem dX12_laughBack_80 : decode cX12_laughBack 80 = .ok (.istore_n 3, 1) := by decide +kernel
theorem dX12_laughBack_81 : decode cX12_laughBack 81 = .ok (.iinc 4 1, 3) := by decide +kernel
theorem dX12_laughBack_84 : decode cX12_laughBack 84 = .ok (.goto (-57), 3) := by decide +kernel
theorem dX12_laughBack_87 : decode cX12_laughBack 87 = .ok (.iload_n 3, 1) := by decide +kernel
theorem dX12_laughBack_88 : decode cX12_laughBack 88 = .ok (.ireturn, 1) := by decide +kernel
theorem dX12_laughsNow_0 : decode cX12_laughsNow 0 = .ok (.aload_n 0, 1) := by decide +kernel
theorem dX12_laughsNow_1 : decode cX12_laughsNow 1 = .ok (.invokevirtual 453, 3) := by decide +kernel
theorem dX12_laughsNow_4 : decode cX12_laughsNow 4 = .ok (.aload_n 0, 1) := by decide +kernel
theorem dX12_laughsNow_5 : decode cX12_laughsNow 5 = .ok (.iconst 1, 1) := by decide +kernel
theorem dX12_laughsNow_6 : decode cX12_laughsNow 6 = .ok (.invokevirtual 430, 3) := by decide +kernel
theorem dX12_laughsNow_9 : decode cX12_laughsNow 9 = .ok (.aload_n 0, 1) := by decide +kernel
theorem dX12_laughsNow_10 : decode cX12_laughsNow 10 = .ok (.getfield 94, 3) := by decide +kernel
theorem dX12_laughsNow_13 : decode cX12_laughsNow 13 = .ok (.bipush 6, 2) := by decide +kernel
theorem dX12_laughsNow_15 : decode cX12_laughsNow 15 = .ok (.iload_n 1, 1) := by decide +kernel
theorem dX12_laughsNow_16 : decode cX12_laughsNow 16 = .ok (.iadd, 1) := by decide +kernel
theorem dX12_laughsNow_17 : decode cX12_laughsNow 17 = .ok (.iaload, 1) := by decide +kernel
theorem dX12_laughsNow_18 : decode cX12_laughsNow 18 = .ok (.aload_n 0, 1) := by decide +kernel
theorem dX12_laughsNow_19 : decode cX12_laughsNow 19 = .ok (.getfield 94, 3) := by decide +kernel
theorem dX12_laughsNow_22 : decode cX12_laughsNow 22 = .ok (.iload_n 1, 1) := by decide +kernel
theorem dX12_laughsNow_23 : decode cX12_laughsNow 23 = .ok (.iaload, 1) := by decide +kernel
theorem dX12_laughsNow_24 : decode cX12_laughsNow 24 = .ok (.isub, 1) := by decide +kernel
theorem dX12_laughsNow_25 : decode cX12_laughsNow 25 = .ok (.ireturn, 1) := by decide +kernel
theorem dX12_hasBy_0 : decode cX12_hasBy 0 = .ok (.iload_n 1, 1) := by decide +kernel
theorem dX12_hasBy_1 : decode cX12_hasBy 1 = .ok (.iload_n 2, 1) := by decide +kernel
theorem dX12_hasBy_2 : decode cX12_hasBy 2 = .ok (.if_icmp .le 9, 3) := by decide +kernel
theorem dX12_hasBy_5 : decode cX12_hasBy 5 = .ok (.iload_n 0, 1) := by decide +kernel
theorem dX12_hasBy_6 : decode cX12_hasBy 6 = .ok (.iload_n 1, 1) := by decide +kernel
theorem dX12_hasBy_7 : decode cX12_hasBy 7 = .ok (.isub, 1) := by decide +kernel
theorem dX12_hasBy_8 : decode cX12_hasBy 8 = .ok (.goto 17, 3) := by decide +kernel
theorem dX12_hasBy_11 : decode cX12_hasBy 11 = .ok (.iload_n 1, 1) := by decide +kernel
theorem dX12_hasBy_12 : decode cX12_hasBy 12 = .ok (.iload_n 2, 1) := by decide +kernel
theorem dX12_hasBy_13 : decode cX12_hasBy 13 = .ok (.if_icmp .ne 11, 3) := by decide +kernel
theorem dX12_hasBy_16 : decode cX12_hasBy 16 = .ok (.iload_n 0, 1) := by decide +kernel
theorem dX12_hasBy_17 : decode cX12_hasBy 17 = .ok (.iconst 2, 1) := by decide +kernel
theorem dX12_hasBy_18 : decode cX12_hasBy 18 = .ok (.idiv, 1) := by decide +kernel
theorem dX12_hasBy_19 : decode cX12_hasBy 19 = .ok (.iload_n 1, 1) := by decide +kernel
theorem dX12_hasBy_20 : decode cX12_hasBy 20 = .ok (.isub, 1) := by decide +kernel
theorem dX12_hasBy_21 : decode cX12_hasBy 21 = .ok (.goto 4, 3) := by decide +kernel
theorem dX12_hasBy_24 : decode cX12_hasBy 24 = .ok (.iconst 0, 1) := by decide +kernel
theorem dX12_hasBy_25 : decode cX12_hasBy 25 = .ok (.ireturn, 1) := by decide +kernel
theorem dX12_restAt_0 : decode cX12_restAt 0 = .ok (.iconst 0, 1) := by decide +kernel
theorem dX12_restAt_1 : decode cX12_restAt 1 = .ok (.istore_n 2, 1) := by decide +kernel
theorem dX12_restAt_2 : decode cX12_restAt 2 = .ok (.iconst 0, 1) := by decide +kernel
theorem dX12_restAt_3 : decode cX12_restAt 3 = .ok (.istore_n 3, 1) := by decide +kernel
theorem dX12_restAt_4 : decode cX12_restAt 4 = .ok (.iload_n 3, 1) := by decide +kernel
theorem dX12_restAt_5 : decode cX12_restAt 5 = .ok (.bipush 25, 2) := by decide +kernel
theorem dX12_restAt_7 : decode cX12_restAt 7 = .ok (.if_icmp .ge 112, 3) := by decide +kernel
theorem dX12_restAt_10 : decode cX12_restAt 10 = .ok (.iload_n 3, 1) := by decide +kernel
theorem dX12_restAt_11 : decode cX12_restAt 11 = .ok (.iconst 5, 1) := by decide +kernel
theorem dX12_restAt_12 : decode cX12_restAt 12 = .ok (.idiv, 1) := by decide +kernel
theorem dX12_restAt_13 : decode cX12_restAt 13 = .ok (.istore 4, 2) := by decide +kernel
theorem dX12_restAt_15 : decode cX12_restAt 15 = .ok (.iload_n 3, 1) := by decide +kernel
theorem dX12_restAt_16 : decode cX12_restAt 16 = .ok (.iconst 5, 1) := by decide +kernel
theorem dX12_restAt_17 : decode cX12_restAt 17 = .ok (.irem, 1) := by decide +kernel
theorem dX12_restAt_18 : decode cX12_restAt 18 = .ok (.istore 5, 2) := by decide +kernel
theorem dX12_restAt_20 : decode cX12_restAt 20 = .ok (.iconst 1, 1) := by decide +kernel
theorem dX12_restAt_21 : decode cX12_restAt 21 = .ok (.istore 6, 2) := by decide +kernel
theorem dX12_restAt_23 : decode cX12_restAt 23 = .ok (.iconst 0, 1) := by decide +kernel
theorem dX12_restAt_24 : decode cX12_restAt 24 = .ok (.istore 7, 2) := by decide +kernel
theorem dX12_restAt_26 : decode cX12_restAt 26 = .ok (.iload 7, 2) := by decide +kernel
theorem dX12_restAt_28 : decode cX12_restAt 28 = .ok (.iconst 5, 1) := by decide +kernel
theorem dX12_restAt_29 : decode cX12_restAt 29 = .ok (.if_icmp .ge 59, 3) := by decide +kernel
theorem dX12_restAt_32 : decode cX12_restAt 32 = .ok (.iload 6, 2) := by decide +kernel
theorem dX12_restAt_34 : decode cX12_restAt 34 = .ok (.ifCond .eq 45, 3) := by decide +kernel
theorem dX12_restAt_37 : decode cX12_restAt 37 = .ok (.iload_n 0, 1) := by decide +kernel
theorem dX12_restAt_38 : decode cX12_restAt 38 = .ok (.iload 7, 2) := by decide +kernel
theorem dX12_restAt_40 : decode cX12_restAt 40 = .ok (.iload 5, 2) := by decide +kernel
theorem dX12_restAt_42 : decode cX12_restAt 42 = .ok (.invokestatic 483, 3) := by decide +kernel
theorem dX12_restAt_45 : decode cX12_restAt 45 = .ok (.iload_n 0, 1) := by decide +kernel
theorem dX12_restAt_46 : decode cX12_restAt 46 = .ok (.iload 4, 2) := by decide +kernel
theorem dX12_restAt_48 : decode cX12_restAt 48 = .ok (.iload 5, 2) := by decide +kernel
theorem dX12_restAt_50 : decode cX12_restAt 50 = .ok (.invokestatic 483, 3) := by decide +kernel
theorem dX12_restAt_53 : decode cX12_restAt 53 = .ok (.if_icmp .gt 26, 3) := by decide +kernel
theorem dX12_restAt_56 : decode cX12_restAt 56 = .ok (.iload_n 0, 1) := by decide +kernel
theorem dX12_restAt_57 : decode cX12_restAt 57 = .ok (.iload 7, 2) := by decide +kernel
theorem dX12_restAt_59 : decode cX12_restAt 59 = .ok (.iload 4, 2) := by decide +kernel
theorem dX12_restAt_61 : decode cX12_restAt 61 = .ok (.invokestatic 483, 3) := by decide +kernel
theorem dX12_restAt_64 : decode cX12_restAt 64 = .ok (.iload_n 0, 1) := by decide +kernel
theorem dX12_restAt_65 : decode cX12_restAt 65 = .ok (.iload 5, 2) := by decide +kernel
theorem dX12_restAt_67 : decode cX12_restAt 67 = .ok (.iload 4, 2) := by decide +kernel
theorem dX12_restAt_69 : decode cX12_restAt 69 = .ok (.invokestatic 483, 3) := by decide +kernel
theorem dX12_restAt_72 : decode cX12_restAt 72 = .ok (.if_icmp .gt 7, 3) := by decide +kernel
theorem dX12_restAt_75 : decode cX12_restAt 75 = .ok (.iconst 1, 1) := by decide +kernel
theorem dX12_restAt_76 : decode cX12_restAt 76 = .ok (.goto 4, 3) := by decide +kernel
theorem dX12_restAt_79 : decode cX12_restAt 79 = .ok (.iconst 0, 1) := by decide +kernel
theorem dX12_restAt_80 : decode cX12_restAt 80 = .ok (.istore 6, 2) := by decide +kernel
theorem dX12_restAt_82 : decode cX12_restAt 82 = .ok (.iinc 7 1, 3) := by decide +kernel
theorem dX12_restAt_85 : decode cX12_restAt 85 = .ok (.goto (-59), 3) := by decide +kernel
theorem dX12_restAt_88 : decode cX12_restAt 88 = .ok (.iload 6, 2) := by decide +kernel
theorem dX12_restAt_90 : decode cX12_restAt 90 = .ok (.ifCond .ne 6, 3) := by decide +kernel
theorem dX12_restAt_93 : decode cX12_restAt 93 = .ok (.goto 20, 3) := by decide +kernel
theorem dX12_restAt_96 : decode cX12_restAt 96 = .ok (.iload_n 2, 1) := by decide +kernel
theorem dX12_restAt_97 : decode cX12_restAt 97 = .ok (.iload_n 1, 1) := by decide +kernel
theorem dX12_restAt_98 : decode cX12_restAt 98 = .ok (.if_icmp .ne 12, 3) := by decide +kernel
theorem dX12_restAt_101 : decode cX12_restAt 101 = .ok (.bipush 10, 2) := by decide +kernel
theorem dX12_restAt_103 : decode cX12_restAt 103 = .ok (.iload 4, 2) := by decide +kernel
theorem dX12_restAt_105 : decode cX12_restAt 105 = .ok (.imul, 1) := by decide +kernel
theorem dX12_restAt_106 : decode cX12_restAt 106 = .ok (.iload 5, 2) := by decide +kernel
theorem dX12_restAt_108 : decode cX12_restAt 108 = .ok (.iadd, 1) := by decide +kernel
theorem dX12_restAt_109 : decode cX12_restAt 109 = .ok (.ireturn, 1) := by decide +kernel
theorem dX12_restAt_110 : decode cX12_restAt 110 = .ok (.iinc 2 1, 3) := by decide +kernel
theorem dX12_restAt_113 : decode cX12_restAt 113 = .ok (.iinc 3 1, 3) := by decide +kernel
theorem dX12_restAt_116 : decode cX12_restAt 116 = .ok (.goto (-112), 3) := by decide +kernel
theorem dX12_restAt_119 : decode cX12_restAt 119 = .ok (.iload_n 1, 1) := by decide +kernel
theorem dX12_restAt_120 : decode cX12_restAt 120 = .ok (.ifCond .ge 7, 3) := by decide +kernel
theorem dX12_restAt_123 : decode cX12_restAt 123 = .ok (.iload_n 2, 1) := by decide +kernel
theorem dX12_restAt_124 : decode cX12_restAt 124 = .ok (.goto 5, 3) := by decide +kernel
theorem dX12_restAt_127 : decode cX12_restAt 127 = .ok (.bipush (-2), 2) := by decide +kernel
theorem dX12_restAt_129 : decode cX12_restAt 129 = .ok (.ireturn, 1) := by decide +kernel
theorem dX12_rests_0 : decode cX12_rests 0 = .ok (.aload_n 0, 1) := by decide +kernel
theorem dX12_rests_1 : decode cX12_rests 1 = .ok (.iconst 0, 1) := by decide +kernel
theorem dX12_rests_2 : decode cX12_rests 2 = .ok (.putfield 139, 3) := by decide +kernel
theorem dX12_rests_5 : decode cX12_rests 5 = .ok (.aload_n 0, 1) := by decide +kernel
theorem dX12_rests_6 : decode cX12_rests 6 = .ok (.iload_n 1, 1) := by decide +kernel
theorem dX12_rests_7 : decode cX12_rests 7 = .ok (.invokevirtual 433, 3) := by decide +kernel
theorem dX12_rests_10 : decode cX12_rests 10 = .ok (.ifCond .eq 15, 3) := by decide +kernel
theorem dX12_rests_13 : decode cX12_rests 13 = .ok (.aload_n 0, 1) := by decide +kernel
theorem dX12_rests_14 : decode cX12_rests 14 = .ok (.iload_n 1, 1) := by decide +kernel
theorem dX12_rests_15 : decode cX12_rests 15 = .ok (.invokevirtual 486, 3) := by decide +kernel
theorem dX12_rests_18 : decode cX12_rests 18 = .ok (.iconst (-1), 1) := by decide +kernel
theorem dX12_rests_19 : decode cX12_rests 19 = .ok (.invokestatic 489, 3) := by decide +kernel
theorem dX12_rests_22 : decode cX12_rests 22 = .ok (.goto 4, 3) := by decide +kernel
theorem dX12_rests_25 : decode cX12_rests 25 = .ok (.iconst (-1), 1) := by decide +kernel
theorem dX12_rests_26 : decode cX12_rests 26 = .ok (.ireturn, 1) := by decide +kernel
theorem dX12_rest_0 : decode cX12_rest 0 = .ok (.aload_n 0, 1) := by decide +kernel
theorem dX12_rest_1 : decode cX12_rest 1 = .ok (.iconst 0, 1) := by decide +kernel
theorem dX12_rest_2 : decode cX12_rest 2 = .ok (.putfield 139, 3) := by decide +kernel
theorem dX12_rest_5 : decode cX12_rest 5 = .ok (.aload_n 0, 1) := by decide +kernel
theorem dX12_rest_6 : decode cX12_rest 6 = .ok (.iload_n 1, 1) := by decide +kernel
theorem dX12_rest_7 : decode cX12_rest 7 = .ok (.invokevirtual 433, 3) := by decide +kernel
theorem dX12_rest_10 : decode cX12_rest 10 = .ok (.ifCond .eq 19, 3) := by decide +kernel
theorem dX12_rest_13 : decode cX12_rest 13 = .ok (.iload_n 2, 1) := by decide +kernel
theorem dX12_rest_14 : decode cX12_rest 14 = .ok (.ifCond .lt 15, 3) := by decide +kernel
theorem dX12_rest_17 : decode cX12_rest 17 = .ok (.aload_n 0, 1) := by decide +kernel
theorem dX12_rest_18 : decode cX12_rest 18 = .ok (.iload_n 1, 1) := by decide +kernel
theorem dX12_rest_19 : decode cX12_rest 19 = .ok (.invokevirtual 486, 3) := by decide +kernel
theorem dX12_rest_22 : decode cX12_rest 22 = .ok (.iload_n 2, 1) := by decide +kernel
theorem dX12_rest_23 : decode cX12_rest 23 = .ok (.invokestatic 489, 3) := by decide +kernel
theorem dX12_rest_26 : decode cX12_rest 26 = .ok (.goto 4, 3) := by decide +kernel
theorem dX12_rest_29 : decode cX12_rest 29 = .ok (.iconst (-1), 1) := by decide +kernel
theorem dX12_rest_30 : decode cX12_rest 30 = .ok (.ireturn, 1) := by decide +kernel
theorem dX12_noted_0 : decode cX12_noted 0 = .ok (.aload_n 0, 1) := by decide +kernel
theorem dX12_noted_1 : decode cX12_noted 1 = .ok (.getfield 118, 3) := by decide +kernel
theorem dX12_noted_4 : decode cX12_noted 4 = .ok (.iconst 3, 1) := by decide +kernel
theorem dX12_noted_5 : decode cX12_noted 5 = .ok (.aload_n 0, 1) := by decide +kernel
theorem dX12_noted_6 : decode cX12_noted 6 = .ok (.getfield 350, 3) := by decide +kernel
theorem dX12_noted_9 : decode cX12_noted 9 = .ok (.imul, 1) := by decide +kernel
theorem dX12_noted_10 : decode cX12_noted 10 = .ok (.iload_n 1, 1) := by decide +kernel
theorem dX12_noted_11 : decode cX12_noted 11 = .ok (.iastore, 1) := by decide +kernel
theorem dX12_noted_12 : decode cX12_noted 12 = .ok (.aload_n 0, 1) := by decide +kernel
theorem dX12_noted_13 : decode cX12_noted 13 = .ok (.getfield 118, 3) := by decide +kernel
theorem dX12_noted_16 : decode cX12_noted 16 = .ok (.iconst 3, 1) := by decide +kernel
theorem dX12_noted_17 : decode cX12_noted 17 = .ok (.aload_n 0, 1) := by decide +kernel
theorem dX12_noted_18 : decode cX12_noted 18 = .ok (.getfield 350, 3) := by decide +kernel
theorem dX12_noted_21 : decode cX12_noted 21 = .ok (.imul, 1) := by decide +kernel
theorem dX12_noted_22 : decode cX12_noted 22 = .ok (.iconst 1, 1) := by decide +kernel
theorem dX12_noted_23 : decode cX12_noted 23 = .ok (.iadd, 1) := by decide +kernel
theorem dX12_noted_24 : decode cX12_noted 24 = .ok (.iload_n 2, 1) := by decide +kernel
theorem dX12_noted_25 : decode cX12_noted 25 = .ok (.iastore, 1) := by decide +kernel
theorem dX12_noted_26 : decode cX12_noted 26 = .ok (.aload_n 0, 1) := by decide +kernel
theorem dX12_noted_27 : decode cX12_noted 27 = .ok (.getfield 118, 3) := by decide +kernel
theorem dX12_noted_30 : decode cX12_noted 30 = .ok (.iconst 3, 1) := by decide +kernel
theorem dX12_noted_31 : decode cX12_noted 31 = .ok (.aload_n 0, 1) := by decide +kernel
theorem dX12_noted_32 : decode cX12_noted 32 = .ok (.getfield 350, 3) := by decide +kernel
theorem dX12_noted_35 : decode cX12_noted 35 = .ok (.imul, 1) := by decide +kernel
theorem dX12_noted_36 : decode cX12_noted 36 = .ok (.iconst 2, 1) := by decide +kernel
theorem dX12_noted_37 : decode cX12_noted 37 = .ok (.iadd, 1) := by decide +kernel
theorem dX12_noted_38 : decode cX12_noted 38 = .ok (.iload_n 3, 1) := by decide +kernel
theorem dX12_noted_39 : decode cX12_noted 39 = .ok (.iastore, 1) := by decide +kernel
theorem dX12_noted_40 : decode cX12_noted 40 = .ok (.aload_n 0, 1) := by decide +kernel
theorem dX12_noted_41 : decode cX12_noted 41 = .ok (.dup, 1) := by decide +kernel
theorem dX12_noted_42 : decode cX12_noted 42 = .ok (.getfield 350, 3) := by decide +kernel
theorem dX12_noted_45 : decode cX12_noted 45 = .ok (.iconst 1, 1) := by decide +kernel
theorem dX12_noted_46 : decode cX12_noted 46 = .ok (.iadd, 1) := by decide +kernel
theorem dX12_noted_47 : decode cX12_noted 47 = .ok (.putfield 350, 3) := by decide +kernel
theorem dX12_noted_50 : decode cX12_noted 50 = .ok (.aload_n 0, 1) := by decide +kernel
theorem dX12_noted_51 : decode cX12_noted 51 = .ok (.getfield 350, 3) := by decide +kernel
theorem dX12_noted_54 : decode cX12_noted 54 = .ok (.iconst 1, 1) := by decide +kernel
theorem dX12_noted_55 : decode cX12_noted 55 = .ok (.isub, 1) := by decide +kernel
theorem dX12_noted_56 : decode cX12_noted 56 = .ok (.ireturn, 1) := by decide +kernel
theorem dX12_find_0 : decode cX12_find 0 = .ok (.aload_n 0, 1) := by decide +kernel
theorem dX12_find_1 : decode cX12_find 1 = .ok (.iconst 0, 1) := by decide +kernel
theorem dX12_find_2 : decode cX12_find 2 = .ok (.putfield 139, 3) := by decide +kernel
theorem dX12_find_5 : decode cX12_find 5 = .ok (.aload_n 0, 1) := by decide +kernel
theorem dX12_find_6 : decode cX12_find 6 = .ok (.getfield 350, 3) := by decide +kernel
theorem dX12_find_9 : decode cX12_find 9 = .ok (.bipush 24, 2) := by decide +kernel
theorem dX12_find_11 : decode cX12_find 11 = .ok (.if_icmp .eq 20, 3) := by decide +kernel
theorem dX12_find_14 : decode cX12_find 14 = .ok (.iload_n 1, 1) := by decide +kernel
theorem dX12_find_15 : decode cX12_find 15 = .ok (.invokestatic 439, 3) := by decide +kernel
theorem dX12_find_18 : decode cX12_find 18 = .ok (.ifCond .eq 13, 3) := by decide +kernel
theorem dX12_find_21 : decode cX12_find 21 = .ok (.iload_n 2, 1) := by decide +kernel
theorem dX12_find_22 : decode cX12_find 22 = .ok (.iconst 0, 1) := by decide +kernel
theorem dX12_find_23 : decode cX12_find 23 = .ok (.bipush 9, 2) := by decide +kernel
theorem dX12_find_25 : decode cX12_find 25 = .ok (.invokestatic 184, 3) := by decide +kernel
theorem dX12_find_28 : decode cX12_find 28 = .ok (.ifCond .ne 7, 3) := by decide +kernel
theorem dX12_find_31 : decode cX12_find 31 = .ok (.iconst (-1), 1) := by decide +kernel
theorem dX12_find_32 : decode cX12_find 32 = .ok (.goto 18, 3) := by decide +kernel
theorem dX12_find_35 : decode cX12_find 35 = .ok (.aload_n 0, 1) := by decide +kernel
theorem dX12_find_36 : decode cX12_find 36 = .ok (.iload_n 1, 1) := by decide +kernel
theorem dX12_find_37 : decode cX12_find 37 = .ok (.iload_n 2, 1) := by decide +kernel
theorem dX12_find_38 : decode cX12_find 38 = .ok (.iload_n 3, 1) := by decide +kernel
theorem dX12_find_39 : decode cX12_find 39 = .ok (.ifCond .eq 7, 3) := by decide +kernel
theorem dX12_find_42 : decode cX12_find 42 = .ok (.iconst 1, 1) := by decide +kernel
theorem dX12_find_43 : decode cX12_find 43 = .ok (.goto 4, 3) := by decide +kernel
theorem dX12_find_46 : decode cX12_find 46 = .ok (.iconst 0, 1) := by decide +kernel
theorem dX12_find_47 : decode cX12_find 47 = .ok (.invokevirtual 492, 3) := by decide +kernel
theorem dX12_find_50 : decode cX12_find 50 = .ok (.ireturn, 1) := by decide +kernel
theorem dX12_strike_0 : decode cX12_strike 0 = .ok (.aload_n 0, 1) := by decide +kernel
theorem dX12_strike_1 : decode cX12_strike 1 = .ok (.iconst 0, 1) := by decide +kernel
theorem dX12_strike_2 : decode cX12_strike 2 = .ok (.putfield 139, 3) := by decide +kernel
theorem dX12_strike_5 : decode cX12_strike 5 = .ok (.aload_n 0, 1) := by decide +kernel
theorem dX12_strike_6 : decode cX12_strike 6 = .ok (.getfield 350, 3) := by decide +kernel
theorem dX12_strike_9 : decode cX12_strike 9 = .ok (.bipush 24, 2) := by decide +kernel
theorem dX12_strike_11 : decode cX12_strike 11 = .ok (.if_icmp .eq 15, 3) := by decide +kernel
theorem dX12_strike_14 : decode cX12_strike 14 = .ok (.iload_n 1, 1) := by decide +kernel
theorem dX12_strike_15 : decode cX12_strike 15 = .ok (.ifCond .lt 11, 3) := by decide +kernel
theorem dX12_strike_18 : decode cX12_strike 18 = .ok (.iload_n 1, 1) := by decide +kernel
theorem dX12_strike_19 : decode cX12_strike 19 = .ok (.aload_n 0, 1) := by decide +kernel
theorem dX12_strike_20 : decode cX12_strike 20 = .ok (.getfield 350, 3) := by decide +kernel
theorem dX12_strike_23 : decode cX12_strike 23 = .ok (.if_icmp .lt 7, 3) := by decide +kernel
theorem dX12_strike_26 : decode cX12_strike 26 = .ok (.iconst (-1), 1) := by decide +kernel
theorem dX12_strike_27 : decode cX12_strike 27 = .ok (.goto 10, 3) := by decide +kernel
theorem dX12_strike_30 : decode cX12_strike 30 = .ok (.aload_n 0, 1) := by decide +kernel
theorem dX12_strike_31 : decode cX12_strike 31 = .ok (.iconst (-1), 1) := by decide +kernel
theorem dX12_strike_32 : decode cX12_strike 32 = .ok (.iload_n 1, 1) := by decide +kernel
theorem dX12_strike_33 : decode cX12_strike 33 = .ok (.iconst 0, 1) := by decide +kernel
theorem dX12_strike_34 : decode cX12_strike 34 = .ok (.invokevirtual 492, 3) := by decide +kernel
theorem dX12_strike_37 : decode cX12_strike 37 = .ok (.ireturn, 1) := by decide +kernel
theorem dX12_known_0 : decode cX12_known 0 = .ok (.aload_n 0, 1) := by decide +kernel
theorem dX12_known_1 : decode cX12_known 1 = .ok (.iconst 0, 1) := by decide +kernel
theorem dX12_known_2 : decode cX12_known 2 = .ok (.putfield 139, 3) := by decide +kernel
theorem dX12_known_5 : decode cX12_known 5 = .ok (.iload_n 1, 1) := by decide +kernel
theorem dX12_known_6 : decode cX12_known 6 = .ok (.iconst (-1), 1) := by decide +kernel
theorem dX12_known_7 : decode cX12_known 7 = .ok (.aload_n 0, 1) := by decide +kernel
theorem dX12_known_8 : decode cX12_known 8 = .ok (.getfield 350, 3) := by decide +kernel
theorem dX12_known_11 : decode cX12_known 11 = .ok (.invokestatic 184, 3) := by decide +kernel
theorem dX12_known_14 : decode cX12_known 14 = .ok (.ifCond .ne 5, 3) := by decide +kernel
theorem dX12_known_17 : decode cX12_known 17 = .ok (.iconst 0, 1) := by decide +kernel
theorem dX12_known_18 : decode cX12_known 18 = .ok (.ireturn, 1) := by decide +kernel
theorem dX12_known_19 : decode cX12_known 19 = .ok (.aload_n 0, 1) := by decide +kernel
theorem dX12_known_20 : decode cX12_known 20 = .ok (.iload_n 1, 1) := by decide +kernel
theorem dX12_known_21 : decode cX12_known 21 = .ok (.putfield 115, 3) := by decide +kernel
theorem dX12_known_24 : decode cX12_known 24 = .ok (.iconst 1, 1) := by decide +kernel
theorem dX12_known_25 : decode cX12_known 25 = .ok (.ireturn, 1) := by decide +kernel
theorem dX12_knownBy_0 : decode cX12_knownBy 0 = .ok (.aload_n 0, 1) := by decide +kernel
theorem dX12_knownBy_1 : decode cX12_knownBy 1 = .ok (.getfield 115, 3) := by decide +kernel
theorem dX12_knownBy_4 : decode cX12_knownBy 4 = .ok (.ifCond .ge 10, 3) := by decide +kernel
theorem dX12_knownBy_7 : decode cX12_knownBy 7 = .ok (.aload_n 0, 1) := by decide +kernel
theorem dX12_knownBy_8 : decode cX12_knownBy 8 = .ok (.getfield 350, 3) := by decide +kernel
theorem dX12_knownBy_11 : decode cX12_knownBy 11 = .ok (.goto 7, 3) := by decide +kernel
theorem dX12_knownBy_14 : decode cX12_knownBy 14 = .ok (.aload_n 0, 1) := by decide +kernel
theorem dX12_knownBy_15 : decode cX12_knownBy 15 = .ok (.getfield 115, 3) := by decide +kernel
theorem dX12_knownBy_18 : decode cX12_knownBy 18 = .ok (.ireturn, 1) := by decide +kernel
theorem dX12_layCounts_0 : decode cX12_layCounts 0 = .ok (.iconst 0, 1) := by decide +kernel
theorem dX12_layCounts_1 : decode cX12_layCounts 1 = .ok (.istore_n 1, 1) := by decide +kernel
theorem dX12_layCounts_2 : decode cX12_layCounts 2 = .ok (.iload_n 1, 1) := by decide +kernel
theorem dX12_layCounts_3 : decode cX12_layCounts 3 = .ok (.aload_n 0, 1) := by decide +kernel
theorem dX12_layCounts_4 : decode cX12_layCounts 4 = .ok (.invokevirtual 495, 3) := by decide +kernel
theorem dX12_layCounts_7 : decode cX12_layCounts 7 = .ok (.if_icmp .ge 16, 3) := by decide +kernel
theorem dX12_layCounts_10 : decode cX12_layCounts 10 = .ok (.aload_n 0, 1) := by decide +kernel
theorem dX12_layCounts_11 : decode cX12_layCounts 11 = .ok (.getfield 121, 3) := by decide +kernel
theorem dX12_layCounts_14 : decode cX12_layCounts 14 = .ok (.iload_n 1, 1) := by decide +kernel
theorem dX12_layCounts_15 : decode cX12_layCounts 15 = .ok (.iconst 1, 1) := by decide +kernel
theorem dX12_layCounts_16 : decode cX12_layCounts 16 = .ok (.bastore, 1) := by decide +kernel
theorem dX12_layCounts_17 : decode cX12_layCounts 17 = .ok (.iinc 1 1, 3) := by decide +kernel
theorem dX12_layCounts_20 : decode cX12_layCounts 20 = .ok (.goto (-18), 3) := by decide +kernel
theorem dX12_layCounts_23 : decode cX12_layCounts 23 = .ok (.aload_n 0, 1) := by decide +kernel
theorem dX12_layCounts_24 : decode cX12_layCounts 24 = .ok (.invokevirtual 495, 3) := by decide +kernel
theorem dX12_layCounts_27 : decode cX12_layCounts 27 = .ok (.iconst 1, 1) := by decide +kernel
theorem dX12_layCounts_28 : decode cX12_layCounts 28 = .ok (.isub, 1) := by decide +kernel
theorem dX12_layCounts_29 : decode cX12_layCounts 29 = .ok (.istore_n 1, 1) := by decide +kernel
theorem dX12_layCounts_30 : decode cX12_layCounts 30 = .ok (.iload_n 1, 1) := by decide +kernel
theorem dX12_layCounts_31 : decode cX12_layCounts 31 = .ok (.ifCond .lt 45, 3) := by decide +kernel
theorem dX12_layCounts_34 : decode cX12_layCounts 34 = .ok (.aload_n 0, 1) := by decide +kernel
theorem dX12_layCounts_35 : decode cX12_layCounts 35 = .ok (.getfield 121, 3) := by decide +kernel
theorem dX12_layCounts_38 : decode cX12_layCounts 38 = .ok (.iload_n 1, 1) := by decide +kernel
theorem dX12_layCounts_39 : decode cX12_layCounts 39 = .ok (.baload, 1) := by decide +kernel
theorem dX12_layCounts_40 : decode cX12_layCounts 40 = .ok (.ifCond .eq 30, 3) := by decide +kernel
theorem dX12_layCounts_43 : decode cX12_layCounts 43 = .ok (.aload_n 0, 1) := by decide +kernel
theorem dX12_layCounts_44 : decode cX12_layCounts 44 = .ok (.getfield 118, 3) := by decide +kernel
theorem dX12_layCounts_47 : decode cX12_layCounts 47 = .ok (.iconst 3, 1) := by decide +kernel
theorem dX12_layCounts_48 : decode cX12_layCounts 48 = .ok (.iload_n 1, 1) := by decide +kernel
theorem dX12_layCounts_49 : decode cX12_layCounts 49 = .ok (.imul, 1) := by decide +kernel
theorem dX12_layCounts_50 : decode cX12_layCounts 50 = .ok (.iaload, 1) := by decide +kernel
theorem dX12_layCounts_51 : decode cX12_layCounts 51 = .ok (.ifCond .ge 19, 3) := by decide +kernel
theorem dX12_layCounts_54 : decode cX12_layCounts 54 = .ok (.aload_n 0, 1) := by decide +kernel
theorem dX12_layCounts_55 : decode cX12_layCounts 55 = .ok (.getfield 121, 3) := by decide +kernel
theorem dX12_layCounts_58 : decode cX12_layCounts 58 = .ok (.aload_n 0, 1) := by decide +kernel
theorem dX12_layCounts_59 : decode cX12_layCounts 59 = .ok (.getfield 118, 3) := by decide +kernel
theorem dX12_layCounts_62 : decode cX12_layCounts 62 = .ok (.iconst 3, 1) := by decide +kernel
theorem dX12_layCounts_63 : decode cX12_layCounts 63 = .ok (.iload_n 1, 1) := by decide +kernel
theorem dX12_layCounts_64 : decode cX12_layCounts 64 = .ok (.imul, 1) := by decide +kernel
theorem dX12_layCounts_65 : decode cX12_layCounts 65 = .ok (.iconst 1, 1) := by decide +kernel
theorem dX12_layCounts_66 : decode cX12_layCounts 66 = .ok (.iadd, 1) := by decide +kernel
theorem dX12_layCounts_67 : decode cX12_layCounts 67 = .ok (.iaload, 1) := by decide +kernel
theorem dX12_layCounts_68 : decode cX12_layCounts 68 = .ok (.iconst 0, 1) := by decide +kernel
theorem dX12_layCounts_69 : decode cX12_layCounts 69 = .ok (.bastore, 1) := by decide +kernel
theorem dX12_layCounts_70 : decode cX12_layCounts 70 = .ok (.iinc 1 (-1), 3) := by decide +kernel
theorem dX12_layCounts_73 : decode cX12_layCounts 73 = .ok (.goto (-43), 3) := by decide +kernel
theorem dX12_layCounts_76 : decode cX12_layCounts 76 = .ok (.return_, 1) := by decide +kernel
theorem dX12_fits_0 : decode cX12_fits 0 = .ok (.iconst 0, 1) := by decide +kernel
theorem dX12_fits_1 : decode cX12_fits 1 = .ok (.istore_n 3, 1) := by decide +kernel
theorem dX12_fits_2 : decode cX12_fits 2 = .ok (.iload_n 3, 1) := by decide +kernel
theorem dX12_fits_3 : decode cX12_fits 3 = .ok (.aload_n 0, 1) := by decide +kernel
theorem dX12_fits_4 : decode cX12_fits 4 = .ok (.invokevirtual 495, 3) := by decide +kernel
theorem dX12_fits_7 : decode cX12_fits 7 = .ok (.if_icmp .ge 106, 3) := by decide +kernel
theorem dX12_fits_10 : decode cX12_fits 10 = .ok (.aload_n 0, 1) := by decide +kernel
theorem dX12_fits_11 : decode cX12_fits 11 = .ok (.getfield 121, 3) := by decide +kernel
theorem dX12_fits_14 : decode cX12_fits 14 = .ok (.iload_n 3, 1) := by decide +kernel
theorem dX12_fits_15 : decode cX12_fits 15 = .ok (.baload, 1) := by decide +kernel
theorem dX12_fits_16 : decode cX12_fits 16 = .ok (.ifCond .eq 91, 3) := by decide +kernel
theorem dX12_fits_19 : decode cX12_fits 19 = .ok (.aload_n 0, 1) := by decide +kernel
theorem dX12_fits_20 : decode cX12_fits 20 = .ok (.getfield 118, 3) := by decide +kernel
theorem dX12_fits_23 : decode cX12_fits 23 = .ok (.iconst 3, 1) := by decide +kernel
theorem dX12_fits_24 : decode cX12_fits 24 = .ok (.iload_n 3, 1) := by decide +kernel
theorem dX12_fits_25 : decode cX12_fits 25 = .ok (.imul, 1) := by decide +kernel
theorem dX12_fits_26 : decode cX12_fits 26 = .ok (.iaload, 1) := by decide +kernel
theorem dX12_fits_27 : decode cX12_fits 27 = .ok (.ifCond .ge 6, 3) := by decide +kernel
theorem dX12_fits_30 : decode cX12_fits 30 = .ok (.goto 77, 3) := by decide +kernel
theorem dX12_fits_33 : decode cX12_fits 33 = .ok (.aload_n 0, 1) := by decide +kernel
theorem dX12_fits_34 : decode cX12_fits 34 = .ok (.getfield 36, 3) := by decide +kernel
theorem dX12_fits_37 : decode cX12_fits 37 = .ok (.bipush 8, 2) := by decide +kernel
theorem dX12_fits_39 : decode cX12_fits 39 = .ok (.iload_n 1, 1) := by decide +kernel
theorem dX12_fits_40 : decode cX12_fits 40 = .ok (.imul, 1) := by decide +kernel
theorem dX12_fits_41 : decode cX12_fits 41 = .ok (.aload_n 0, 1) := by decide +kernel
theorem dX12_fits_42 : decode cX12_fits 42 = .ok (.getfield 118, 3) := by decide +kernel
theorem dX12_fits_45 : decode cX12_fits 45 = .ok (.iconst 3, 1) := by decide +kernel
theorem dX12_fits_46 : decode cX12_fits 46 = .ok (.iload_n 3, 1) := by decide +kernel
theorem dX12_fits_47 : decode cX12_fits 47 = .ok (.imul, 1) := by decide +kernel
theorem dX12_fits_48 : decode cX12_fits 48 = .ok (.iaload, 1) := by decide +kernel
theorem dX12_fits_49 : decode cX12_fits 49 = .ok (.iadd, 1) := by decide +kernel
theorem dX12_fits_50 : decode cX12_fits 50 = .ok (.iaload, 1) := by decide +kernel
theorem dX12_fits_51 : decode cX12_fits 51 = .ok (.iload_n 2, 1) := by decide +kernel
theorem dX12_fits_52 : decode cX12_fits 52 = .ok (.aload_n 0, 1) := by decide +kernel
theorem dX12_fits_53 : decode cX12_fits 53 = .ok (.getfield 100, 3) := by decide +kernel
theorem dX12_fits_56 : decode cX12_fits 56 = .ok (.iload_n 1, 1) := by decide +kernel
theorem dX12_fits_57 : decode cX12_fits 57 = .ok (.iaload, 1) := by decide +kernel
theorem dX12_fits_58 : decode cX12_fits 58 = .ok (.invokestatic 377, 3) := by decide +kernel
theorem dX12_fits_61 : decode cX12_fits 61 = .ok (.aload_n 0, 1) := by decide +kernel
theorem dX12_fits_62 : decode cX12_fits 62 = .ok (.getfield 118, 3) := by decide +kernel
theorem dX12_fits_65 : decode cX12_fits 65 = .ok (.iconst 3, 1) := by decide +kernel
theorem dX12_fits_66 : decode cX12_fits 66 = .ok (.iload_n 3, 1) := by decide +kernel
theorem dX12_fits_67 : decode cX12_fits 67 = .ok (.imul, 1) := by decide +kernel
theorem dX12_fits_68 : decode cX12_fits 68 = .ok (.iconst 1, 1) := by decide +kernel
theorem dX12_fits_69 : decode cX12_fits 69 = .ok (.iadd, 1) := by decide +kernel
theorem dX12_fits_70 : decode cX12_fits 70 = .ok (.iaload, 1) := by decide +kernel
theorem dX12_fits_71 : decode cX12_fits 71 = .ok (.if_icmp .ne 7, 3) := by decide +kernel
theorem dX12_fits_74 : decode cX12_fits 74 = .ok (.iconst 1, 1) := by decide +kernel
theorem dX12_fits_75 : decode cX12_fits 75 = .ok (.goto 4, 3) := by decide +kernel
theorem dX12_fits_78 : decode cX12_fits 78 = .ok (.iconst 0, 1) := by decide +kernel
theorem dX12_fits_79 : decode cX12_fits 79 = .ok (.istore 4, 2) := by decide +kernel
theorem dX12_fits_81 : decode cX12_fits 81 = .ok (.iload 4, 2) := by decide +kernel
theorem dX12_fits_83 : decode cX12_fits 83 = .ok (.aload_n 0, 1) := by decide +kernel
theorem dX12_fits_84 : decode cX12_fits 84 = .ok (.getfield 118, 3) := by decide +kernel
theorem dX12_fits_87 : decode cX12_fits 87 = .ok (.iconst 3, 1) := by decide +kernel
theorem dX12_fits_88 : decode cX12_fits 88 = .ok (.iload_n 3, 1) := by decide +kernel
theorem dX12_fits_89 : decode cX12_fits 89 = .ok (.imul, 1) := by decide +kernel
theorem dX12_fits_90 : decode cX12_fits 90 = .ok (.iconst 2, 1) := by decide +kernel
theorem dX12_fits_91 : decode cX12_fits 91 = .ok (.iadd, 1) := by decide +kernel
theorem dX12_fits_92 : decode cX12_fits 92 = .ok (.iaload, 1) := by decide +kernel
theorem dX12_fits_93 : decode cX12_fits 93 = .ok (.iconst 1, 1) := by decide +kernel
theorem dX12_fits_94 : decode cX12_fits 94 = .ok (.if_icmp .ne 7, 3) := by decide +kernel
theorem dX12_fits_97 : decode cX12_fits 97 = .ok (.iconst 1, 1) := by decide +kernel
theorem dX12_fits_98 : decode cX12_fits 98 = .ok (.goto 4, 3) := by decide +kernel
theorem dX12_fits_101 : decode cX12_fits 101 = .ok (.iconst 0, 1) := by decide +kernel
theorem dX12_fits_102 : decode cX12_fits 102 = .ok (.if_icmp .eq 5, 3) := by decide +kernel
theorem dX12_fits_105 : decode cX12_fits 105 = .ok (.iconst 0, 1) := by decide +kernel
theorem dX12_fits_106 : decode cX12_fits 106 = .ok (.ireturn, 1) := by decide +kernel
theorem dX12_fits_107 : decode cX12_fits 107 = .ok (.iinc 3 1, 3) := by decide +kernel
theorem dX12_fits_110 : decode cX12_fits 110 = .ok (.goto (-108), 3) := by decide +kernel
theorem dX12_fits_113 : decode cX12_fits 113 = .ok (.iconst 1, 1) := by decide +kernel
theorem dX12_fits_114 : decode cX12_fits 114 = .ok (.ireturn, 1) := by decide +kernel
theorem dX12_whose_0 : decode cX12_whose 0 = .ok (.aload_n 0, 1) := by decide +kernel
theorem dX12_whose_1 : decode cX12_whose 1 = .ok (.iconst 0, 1) := by decide +kernel
theorem dX12_whose_2 : decode cX12_whose 2 = .ok (.putfield 139, 3) := by decide +kernel
theorem dX12_whose_5 : decode cX12_whose 5 = .ok (.aload_n 0, 1) := by decide +kernel
theorem dX12_whose_6 : decode cX12_whose 6 = .ok (.invokevirtual 498, 3) := by decide +kernel
theorem dX12_whose_9 : decode cX12_whose 9 = .ok (.iconst 0, 1) := by decide +kernel
theorem dX12_whose_10 : decode cX12_whose 10 = .ok (.istore_n 1, 1) := by decide +kernel
theorem dX12_whose_11 : decode cX12_whose 11 = .ok (.iconst 0, 1) := by decide +kernel
theorem dX12_whose_12 : decode cX12_whose 12 = .ok (.istore_n 2, 1) := by decide +kernel
theorem dX12_whose_13 : decode cX12_whose 13 = .ok (.iload_n 2, 1) := by decide +kernel
theorem dX12_whose_14 : decode cX12_whose 14 = .ok (.aload_n 0, 1) := by decide +kernel
theorem dX12_whose_15 : decode cX12_whose 15 = .ok (.getfield 219, 3) := by decide +kernel
theorem dX12_whose_18 : decode cX12_whose 18 = .ok (.if_icmp .ge 33, 3) := by decide +kernel
theorem dX12_whose_21 : decode cX12_whose 21 = .ok (.iload_n 1, 1) := by decide +kernel
theorem dX12_whose_22 : decode cX12_whose 22 = .ok (.aload_n 0, 1) := by decide +kernel
theorem dX12_whose_23 : decode cX12_whose 23 = .ok (.iload_n 2, 1) := by decide +kernel
theorem dX12_whose_24 : decode cX12_whose 24 = .ok (.aload_n 0, 1) := by decide +kernel
theorem dX12_whose_25 : decode cX12_whose 25 = .ok (.getfield 88, 3) := by decide +kernel
theorem dX12_whose_28 : decode cX12_whose 28 = .ok (.iload_n 2, 1) := by decide +kernel
theorem dX12_whose_29 : decode cX12_whose 29 = .ok (.iaload, 1) := by decide +kernel
theorem dX12_whose_30 : decode cX12_whose 30 = .ok (.invokevirtual 501, 3) := by decide +kernel
theorem dX12_whose_33 : decode cX12_whose 33 = .ok (.ifCond .eq 9, 3) := by decide +kernel
theorem dX12_whose_36 : decode cX12_whose 36 = .ok (.iconst 1, 1) := by decide +kernel
theorem dX12_whose_37 : decode cX12_whose 37 = .ok (.iload_n 2, 1) := by decide +kernel
theorem dX12_whose_38 : decode cX12_whose 38 = .ok (.ishl, 1) := by decide +kernel
theorem dX12_whose_39 : decode cX12_whose 39 = .ok (.goto 4, 3) := by decide +kernel
theorem dX12_whose_42 : decode cX12_whose 42 = .ok (.iconst 0, 1) := by decide +kernel
theorem dX12_whose_43 : decode cX12_whose 43 = .ok (.ior, 1) := by decide +kernel
theorem dX12_whose_44 : decode cX12_whose 44 = .ok (.istore_n 1, 1) := by decide +kernel
theorem dX12_whose_45 : decode cX12_whose 45 = .ok (.iinc 2 1, 3) := by decide +kernel
theorem dX12_whose_48 : decode cX12_whose 48 = .ok (.goto (-35), 3) := by decide +kernel
theorem dX12_whose_51 : decode cX12_whose 51 = .ok (.iload_n 1, 1) := by decide +kernel
theorem dX12_whose_52 : decode cX12_whose 52 = .ok (.ireturn, 1) := by decide +kernel
theorem dX12_worstAt_0 : decode cX12_worstAt 0 = .ok (.iconst 0, 1) := by decide +kernel
theorem dX12_worstAt_1 : decode cX12_worstAt 1 = .ok (.istore_n 3, 1) := by decide +kernel
theorem dX12_worstAt_2 : decode cX12_worstAt 2 = .ok (.iconst 0, 1) := by decide +kernel
theorem dX12_worstAt_3 : decode cX12_worstAt 3 = .ok (.istore 4, 2) := by decide +kernel
theorem dX12_worstAt_5 : decode cX12_worstAt 5 = .ok (.iload 4, 2) := by decide +kernel
theorem dX12_worstAt_7 : decode cX12_worstAt 7 = .ok (.bipush 10, 2) := by decide +kernel
theorem dX12_worstAt_9 : decode cX12_worstAt 9 = .ok (.if_icmp .ge 75, 3) := by decide +kernel
theorem dX12_worstAt_12 : decode cX12_worstAt 12 = .ok (.iconst 0, 1) := by decide +kernel
theorem dX12_worstAt_13 : decode cX12_worstAt 13 = .ok (.istore 5, 2) := by decide +kernel
theorem dX12_worstAt_15 : decode cX12_worstAt 15 = .ok (.iconst 0, 1) := by decide +kernel
theorem dX12_worstAt_16 : decode cX12_worstAt 16 = .ok (.istore 6, 2) := by decide +kernel
theorem dX12_worstAt_18 : decode cX12_worstAt 18 = .ok (.iload 6, 2) := by decide +kernel
theorem dX12_worstAt_20 : decode cX12_worstAt 20 = .ok (.aload_n 0, 1) := by decide +kernel
theorem dX12_worstAt_21 : decode cX12_worstAt 21 = .ok (.getfield 219, 3) := by decide +kernel
theorem dX12_worstAt_24 : decode cX12_worstAt 24 = .ok (.if_icmp .ge 41, 3) := by decide +kernel
theorem dX12_worstAt_27 : decode cX12_worstAt 27 = .ok (.iload 5, 2) := by decide +kernel
theorem dX12_worstAt_29 : decode cX12_worstAt 29 = .ok (.iload_n 1, 1) := by decide +kernel
theorem dX12_worstAt_30 : decode cX12_worstAt 30 = .ok (.iload 6, 2) := by decide +kernel
theorem dX12_worstAt_32 : decode cX12_worstAt 32 = .ok (.invokestatic 250, 3) := by decide +kernel
theorem dX12_worstAt_35 : decode cX12_worstAt 35 = .ok (.ifCond .eq 20, 3) := by decide +kernel
theorem dX12_worstAt_38 : decode cX12_worstAt 38 = .ok (.aload_n 0, 1) := by decide +kernel
theorem dX12_worstAt_39 : decode cX12_worstAt 39 = .ok (.iconst 0, 1) := by decide +kernel
theorem dX12_worstAt_40 : decode cX12_worstAt 40 = .ok (.iload 6, 2) := by decide +kernel
theorem dX12_worstAt_42 : decode cX12_worstAt 42 = .ok (.iload_n 2, 1) := by decide +kernel
theorem dX12_worstAt_43 : decode cX12_worstAt 43 = .ok (.invokevirtual 381, 3) := by decide +kernel
theorem dX12_worstAt_46 : decode cX12_worstAt 46 = .ok (.iload 4, 2) := by decide +kernel
theorem dX12_worstAt_48 : decode cX12_worstAt 48 = .ok (.if_icmp .ne 7, 3) := by decide +kernel
theorem dX12_worstAt_51 : decode cX12_worstAt 51 = .ok (.iconst 1, 1) := by decide +kernel
theorem dX12_worstAt_52 : decode cX12_worstAt 52 = .ok (.goto 4, 3) := by decide +kernel
theorem dX12_worstAt_55 : decode cX12_worstAt 55 = .ok (.iconst 0, 1) := by decide +kernel
theorem dX12_worstAt_56 : decode cX12_worstAt 56 = .ok (.iadd, 1) := by decide +kernel
theorem dX12_worstAt_57 : decode cX12_worstAt 57 = .ok (.istore 5, 2) := by decide +kernel
theorem dX12_worstAt_59 : decode cX12_worstAt 59 = .ok (.iinc 6 1, 3) := by decide +kernel
theorem dX12_worstAt_62 : decode cX12_worstAt 62 = .ok (.goto (-44), 3) := by decide +kernel
theorem dX12_worstAt_65 : decode cX12_worstAt 65 = .ok (.iload 5, 2) := by decide +kernel
theorem dX12_worstAt_67 : decode cX12_worstAt 67 = .ok (.iload_n 3, 1) := by decide +kernel
theorem dX12_worstAt_68 : decode cX12_worstAt 68 = .ok (.if_icmp .le 8, 3) := by decide +kernel
theorem dX12_worstAt_71 : decode cX12_worstAt 71 = .ok (.iload 5, 2) := by decide +kernel
theorem dX12_worstAt_73 : decode cX12_worstAt 73 = .ok (.goto 4, 3) := by decide +kernel
theorem dX12_worstAt_76 : decode cX12_worstAt 76 = .ok (.iload_n 3, 1) := by decide +kernel
theorem dX12_worstAt_77 : decode cX12_worstAt 77 = .ok (.istore_n 3, 1) := by decide +kernel
theorem dX12_worstAt_78 : decode cX12_worstAt 78 = .ok (.iinc 4 1, 3) := by decide +kernel
theorem dX12_worstAt_81 : decode cX12_worstAt 81 = .ok (.goto (-76), 3) := by decide +kernel
theorem dX12_worstAt_84 : decode cX12_worstAt 84 = .ok (.iload_n 3, 1) := by decide +kernel
theorem dX12_worstAt_85 : decode cX12_worstAt 85 = .ok (.ireturn, 1) := by decide +kernel
theorem dX12_ask_0 : decode cX12_ask 0 = .ok (.iload_n 1, 1) := by decide +kernel
theorem dX12_ask_1 : decode cX12_ask 1 = .ok (.iconst 0, 1) := by decide +kernel
theorem dX12_ask_2 : decode cX12_ask 2 = .ok (.iconst 1, 1) := by decide +kernel
theorem dX12_ask_3 : decode cX12_ask 3 = .ok (.invokestatic 184, 3) := by decide +kernel
theorem dX12_ask_6 : decode cX12_ask 6 = .ok (.ifCond .ne 10, 3) := by decide +kernel
theorem dX12_ask_9 : decode cX12_ask 9 = .ok (.aload_n 0, 1) := by decide +kernel
theorem dX12_ask_10 : decode cX12_ask 10 = .ok (.iconst 0, 1) := by decide +kernel
theorem dX12_ask_11 : decode cX12_ask 11 = .ok (.putfield 139, 3) := by decide +kernel
theorem dX12_ask_14 : decode cX12_ask 14 = .ok (.iconst (-1), 1) := by decide +kernel
theorem dX12_ask_15 : decode cX12_ask 15 = .ok (.ireturn, 1) := by decide +kernel
theorem dX12_ask_16 : decode cX12_ask 16 = .ok (.aload_n 0, 1) := by decide +kernel
theorem dX12_ask_17 : decode cX12_ask 17 = .ok (.invokevirtual 504, 3) := by decide +kernel
theorem dX12_ask_20 : decode cX12_ask 20 = .ok (.istore_n 2, 1) := by decide +kernel
theorem dX12_ask_21 : decode cX12_ask 21 = .ok (.aload_n 0, 1) := by decide +kernel
theorem dX12_ask_22 : decode cX12_ask 22 = .ok (.invokevirtual 347, 3) := by decide +kernel
theorem dX12_ask_25 : decode cX12_ask 25 = .ok (.iconst 0, 1) := by decide +kernel
theorem dX12_ask_26 : decode cX12_ask 26 = .ok (.istore_n 3, 1) := by decide +kernel
theorem dX12_ask_27 : decode cX12_ask 27 = .ok (.iconst 1, 1) := by decide +kernel
theorem dX12_ask_28 : decode cX12_ask 28 = .ok (.istore 4, 2) := by decide +kernel
theorem dX12_ask_30 : decode cX12_ask 30 = .ok (.iload 4, 2) := by decide +kernel
theorem dX12_ask_32 : decode cX12_ask 32 = .ok (.bipush 8, 2) := by decide +kernel
theorem dX12_ask_34 : decode cX12_ask 34 = .ok (.if_icmp .ge 32, 3) := by decide +kernel
theorem dX12_ask_37 : decode cX12_ask 37 = .ok (.aload_n 0, 1) := by decide +kernel
theorem dX12_ask_38 : decode cX12_ask 38 = .ok (.iload_n 2, 1) := by decide +kernel
theorem dX12_ask_39 : decode cX12_ask 39 = .ok (.iload 4, 2) := by decide +kernel
theorem dX12_ask_41 : decode cX12_ask 41 = .ok (.invokevirtual 507, 3) := by decide +kernel
theorem dX12_ask_44 : decode cX12_ask 44 = .ok (.aload_n 0, 1) := by decide +kernel
theorem dX12_ask_45 : decode cX12_ask 45 = .ok (.iload_n 2, 1) := by decide +kernel
theorem dX12_ask_46 : decode cX12_ask 46 = .ok (.iload_n 3, 1) := by decide +kernel
theorem dX12_ask_47 : decode cX12_ask 47 = .ok (.invokevirtual 507, 3) := by decide +kernel
theorem dX12_ask_50 : decode cX12_ask 50 = .ok (.if_icmp .ge 8, 3) := by decide +kernel
theorem dX12_ask_53 : decode cX12_ask 53 = .ok (.iload 4, 2) := by decide +kernel
theorem dX12_ask_55 : decode cX12_ask 55 = .ok (.goto 4, 3) := by decide +kernel
theorem dX12_ask_58 : decode cX12_ask 58 = .ok (.iload_n 3, 1) := by decide +kernel
theorem dX12_ask_59 : decode cX12_ask 59 = .ok (.istore_n 3, 1) := by decide +kernel
theorem dX12_ask_60 : decode cX12_ask 60 = .ok (.iinc 4 1, 3) := by decide +kernel
theorem dX12_ask_63 : decode cX12_ask 63 = .ok (.goto (-33), 3) := by decide +kernel
theorem dX12_ask_66 : decode cX12_ask 66 = .ok (.iload_n 1, 1) := by decide +kernel
theorem dX12_ask_67 : decode cX12_ask 67 = .ok (.ifCond .ne 7, 3) := by decide +kernel
theorem dX12_ask_70 : decode cX12_ask 70 = .ok (.iload_n 3, 1) := by decide +kernel
theorem dX12_ask_71 : decode cX12_ask 71 = .ok (.goto 9, 3) := by decide +kernel
theorem dX12_ask_74 : decode cX12_ask 74 = .ok (.aload_n 0, 1) := by decide +kernel
theorem dX12_ask_75 : decode cX12_ask 75 = .ok (.iload_n 2, 1) := by decide +kernel
theorem dX12_ask_76 : decode cX12_ask 76 = .ok (.iload_n 3, 1) := by decide +kernel
theorem dX12_ask_77 : decode cX12_ask 77 = .ok (.invokevirtual 507, 3) := by decide +kernel
theorem dX12_ask_80 : decode cX12_ask 80 = .ok (.ireturn, 1) := by decide +kernel
theorem dX12_sours_0 : decode cX12_sours 0 = .ok (.aload_n 0, 1) := by decide +kernel
theorem dX12_sours_1 : decode cX12_sours 1 = .ok (.iconst 0, 1) := by decide +kernel
theorem dX12_sours_2 : decode cX12_sours 2 = .ok (.putfield 139, 3) := by decide +kernel
theorem dX12_sours_5 : decode cX12_sours 5 = .ok (.aload_n 0, 1) := by decide +kernel
theorem dX12_sours_6 : decode cX12_sours 6 = .ok (.iload_n 1, 1) := by decide +kernel
theorem dX12_sours_7 : decode cX12_sours 7 = .ok (.invokevirtual 433, 3) := by decide +kernel
theorem dX12_sours_10 : decode cX12_sours 10 = .ok (.ifCond .ne 5, 3) := by decide +kernel
theorem dX12_sours_13 : decode cX12_sours 13 = .ok (.iconst (-1), 1) := by decide +kernel
theorem dX12_sours_14 : decode cX12_sours 14 = .ok (.ireturn, 1) := by decide +kernel
theorem dX12_sours_15 : decode cX12_sours 15 = .ok (.aload_n 0, 1) := by decide +kernel
theorem dX12_sours_16 : decode cX12_sours 16 = .ok (.invokevirtual 498, 3) := by decide +kernel
theorem dX12_sours_19 : decode cX12_sours 19 = .ok (.iconst 0, 1) := by decide +kernel
theorem dX12_sours_20 : decode cX12_sours 20 = .ok (.istore_n 2, 1) := by decide +kernel
theorem dX12_sours_21 : decode cX12_sours 21 = .ok (.iconst 0, 1) := by decide +kernel
theorem dX12_sours_22 : decode cX12_sours 22 = .ok (.istore_n 3, 1) := by decide +kernel
theorem dX12_sours_23 : decode cX12_sours 23 = .ok (.iload_n 3, 1) := by decide +kernel
theorem dX12_sours_24 : decode cX12_sours 24 = .ok (.bipush 10, 2) := by decide +kernel
theorem dX12_sours_26 : decode cX12_sours 26 = .ok (.if_icmp .ge 30, 3) := by decide +kernel
theorem dX12_sours_29 : decode cX12_sours 29 = .ok (.iload_n 2, 1) := by decide +kernel
theorem dX12_sours_30 : decode cX12_sours 30 = .ok (.aload_n 0, 1) := by decide +kernel
theorem dX12_sours_31 : decode cX12_sours 31 = .ok (.iload_n 1, 1) := by decide +kernel
theorem dX12_sours_32 : decode cX12_sours 32 = .ok (.iconst 5, 1) := by decide +kernel
theorem dX12_sours_33 : decode cX12_sours 33 = .ok (.iload_n 3, 1) := by decide +kernel
theorem dX12_sours_34 : decode cX12_sours 34 = .ok (.imul, 1) := by decide +kernel
theorem dX12_sours_35 : decode cX12_sours 35 = .ok (.invokevirtual 501, 3) := by decide +kernel
theorem dX12_sours_38 : decode cX12_sours 38 = .ok (.ifCond .eq 9, 3) := by decide +kernel
theorem dX12_sours_41 : decode cX12_sours 41 = .ok (.iconst 1, 1) := by decide +kernel
theorem dX12_sours_42 : decode cX12_sours 42 = .ok (.iload_n 3, 1) := by decide +kernel
theorem dX12_sours_43 : decode cX12_sours 43 = .ok (.ishl, 1) := by decide +kernel
theorem dX12_sours_44 : decode cX12_sours 44 = .ok (.goto 4, 3) := by decide +kernel
theorem dX12_sours_47 : decode cX12_sours 47 = .ok (.iconst 0, 1) := by decide +kernel
theorem dX12_sours_48 : decode cX12_sours 48 = .ok (.ior, 1) := by decide +kernel
theorem dX12_sours_49 : decode cX12_sours 49 = .ok (.istore_n 2, 1) := by decide +kernel
theorem dX12_sours_50 : decode cX12_sours 50 = .ok (.iinc 3 1, 3) := by decide +kernel
theorem dX12_sours_53 : decode cX12_sours 53 = .ok (.goto (-30), 3) := by decide +kernel
theorem dX12_sours_56 : decode cX12_sours 56 = .ok (.iload_n 2, 1) := by decide +kernel
theorem dX12_sours_57 : decode cX12_sours 57 = .ok (.ireturn, 1) := by decide +kernel
theorem dX12_chance_0 : decode cX12_chance 0 = .ok (.aload_n 0, 1) := by decide +kernel
theorem dX12_chance_1 : decode cX12_chance 1 = .ok (.iconst 0, 1) := by decide +kernel
theorem dX12_chance_2 : decode cX12_chance 2 = .ok (.putfield 139, 3) := by decide +kernel
theorem dX12_chance_5 : decode cX12_chance 5 = .ok (.iload_n 1, 1) := by decide +kernel
theorem dX12_chance_6 : decode cX12_chance 6 = .ok (.ifCond .lt 32, 3) := by decide +kernel
theorem dX12_chance_9 : decode cX12_chance 9 = .ok (.iload_n 2, 1) := by decide +kernel
theorem dX12_chance_10 : decode cX12_chance 10 = .ok (.iconst 1, 1) := by decide +kernel
theorem dX12_chance_11 : decode cX12_chance 11 = .ok (.bipush 99, 2) := by decide +kernel
theorem dX12_chance_13 : decode cX12_chance 13 = .ok (.invokestatic 184, 3) := by decide +kernel
theorem dX12_chance_16 : decode cX12_chance 16 = .ok (.ifCond .eq 22, 3) := by decide +kernel
theorem dX12_chance_19 : decode cX12_chance 19 = .ok (.aload_n 0, 1) := by decide +kernel
theorem dX12_chance_20 : decode cX12_chance 20 = .ok (.iload_n 3, 1) := by decide +kernel
theorem dX12_chance_21 : decode cX12_chance 21 = .ok (.invokevirtual 433, 3) := by decide +kernel
theorem dX12_chance_24 : decode cX12_chance 24 = .ok (.ifCond .eq 14, 3) := by decide +kernel
theorem dX12_chance_27 : decode cX12_chance 27 = .ok (.iload 4, 2) := by decide +kernel
theorem dX12_chance_29 : decode cX12_chance 29 = .ok (.iconst 0, 1) := by decide +kernel
theorem dX12_chance_30 : decode cX12_chance 30 = .ok (.bipush 99, 2) := by decide +kernel
theorem dX12_chance_32 : decode cX12_chance 32 = .ok (.invokestatic 184, 3) := by decide +kernel
theorem dX12_chance_35 : decode cX12_chance 35 = .ok (.ifCond .ne 5, 3) := by decide +kernel
theorem dX12_chance_38 : decode cX12_chance 38 = .ok (.iconst (-1), 1) := by decide +kernel
theorem dX12_chance_39 : decode cX12_chance 39 = .ok (.ireturn, 1) := by decide +kernel
theorem dX12_chance_40 : decode cX12_chance 40 = .ok (.aload_n 0, 1) := by decide +kernel
theorem dX12_chance_41 : decode cX12_chance 41 = .ok (.getfield 343, 3) := by decide +kernel
theorem dX12_chance_44 : decode cX12_chance 44 = .ok (.lstore 5, 2) := by decide +kernel
theorem dX12_chance_46 : decode cX12_chance 46 = .ok (.aload_n 0, 1) := by decide +kernel
theorem dX12_chance_47 : decode cX12_chance 47 = .ok (.iload_n 1, 1) := by decide +kernel
theorem dX12_chance_48 : decode cX12_chance 48 = .ok (.i2l, 1) := by decide +kernel
theorem dX12_chance_49 : decode cX12_chance 49 = .ok (.putfield 343, 3) := by decide +kernel
theorem dX12_chance_52 : decode cX12_chance 52 = .ok (.iconst 0, 1) := by decide +kernel
theorem dX12_chance_53 : decode cX12_chance 53 = .ok (.istore 7, 2) := by decide +kernel
theorem dX12_chance_55 : decode cX12_chance 55 = .ok (.iconst 0, 1) := by decide +kernel
theorem dX12_chance_56 : decode cX12_chance 56 = .ok (.istore 8, 2) := by decide +kernel
theorem dX12_chance_58 : decode cX12_chance 58 = .ok (.iload 8, 2) := by decide +kernel
theorem dX12_chance_60 : decode cX12_chance 60 = .ok (.bipush 10, 2) := by decide +kernel
theorem dX12_chance_62 : decode cX12_chance 62 = .ok (.if_icmp .ge 47, 3) := by decide +kernel
theorem dX12_chance_65 : decode cX12_chance 65 = .ok (.aload_n 0, 1) := by decide +kernel
theorem dX12_chance_66 : decode cX12_chance 66 = .ok (.invokevirtual 453, 3) := by decide +kernel
theorem dX12_chance_69 : decode cX12_chance 69 = .ok (.aload_n 0, 1) := by decide +kernel
theorem dX12_chance_70 : decode cX12_chance 70 = .ok (.iconst 1, 1) := by decide +kernel
theorem dX12_chance_71 : decode cX12_chance 71 = .ok (.putfield 359, 3) := by decide +kernel
theorem dX12_chance_74 : decode cX12_chance 74 = .ok (.aload_n 0, 1) := by decide +kernel
theorem dX12_chance_75 : decode cX12_chance 75 = .ok (.iload_n 2, 1) := by decide +kernel
theorem dX12_chance_76 : decode cX12_chance 76 = .ok (.invokevirtual 456, 3) := by decide +kernel
theorem dX12_chance_79 : decode cX12_chance 79 = .ok (.iload 7, 2) := by decide +kernel
theorem dX12_chance_81 : decode cX12_chance 81 = .ok (.aload_n 0, 1) := by decide +kernel
theorem dX12_chance_82 : decode cX12_chance 82 = .ok (.getfield 88, 3) := by decide +kernel
theorem dX12_chance_85 : decode cX12_chance 85 = .ok (.bipush 6, 2) := by decide +kernel
theorem dX12_chance_87 : decode cX12_chance 87 = .ok (.iload_n 3, 1) := by decide +kernel
theorem dX12_chance_88 : decode cX12_chance 88 = .ok (.iadd, 1) := by decide +kernel
theorem dX12_chance_89 : decode cX12_chance 89 = .ok (.iaload, 1) := by decide +kernel
theorem dX12_chance_90 : decode cX12_chance 90 = .ok (.iload 4, 2) := by decide +kernel
theorem dX12_chance_92 : decode cX12_chance 92 = .ok (.if_icmp .lt 7, 3) := by decide +kernel
theorem dX12_chance_95 : decode cX12_chance 95 = .ok (.iconst 1, 1) := by decide +kernel
theorem dX12_chance_96 : decode cX12_chance 96 = .ok (.goto 4, 3) := by decide +kernel
theorem dX12_chance_99 : decode cX12_chance 99 = .ok (.iconst 0, 1) := by decide +kernel
theorem dX12_chance_100 : decode cX12_chance 100 = .ok (.iadd, 1) := by decide +kernel
theorem dX12_chance_101 : decode cX12_chance 101 = .ok (.istore 7, 2) := by decide +kernel
theorem dX12_chance_103 : decode cX12_chance 103 = .ok (.iinc 8 1, 3) := by decide +kernel
theorem dX12_chance_106 : decode cX12_chance 106 = .ok (.goto (-48), 3) := by decide +kernel
theorem dX12_chance_109 : decode cX12_chance 109 = .ok (.aload_n 0, 1) := by decide +kernel
theorem dX12_chance_110 : decode cX12_chance 110 = .ok (.iconst 0, 1) := by decide +kernel
theorem dX12_chance_111 : decode cX12_chance 111 = .ok (.putfield 359, 3) := by decide +kernel
theorem dX12_chance_114 : decode cX12_chance 114 = .ok (.aload_n 0, 1) := by decide +kernel
theorem dX12_chance_115 : decode cX12_chance 115 = .ok (.lload 5, 2) := by decide +kernel
theorem dX12_chance_117 : decode cX12_chance 117 = .ok (.putfield 343, 3) := by decide +kernel
theorem dX12_chance_120 : decode cX12_chance 120 = .ok (.iload 7, 2) := by decide +kernel
theorem dX12_chance_122 : decode cX12_chance 122 = .ok (.ireturn, 1) := by decide +kernel
theorem dX12_tried_0 : decode cX12_tried 0 = .ok (.aload_n 0, 1) := by decide +kernel
theorem dX12_tried_1 : decode cX12_tried 1 = .ok (.iconst 0, 1) := by decide +kernel
theorem dX12_tried_2 : decode cX12_tried 2 = .ok (.putfield 139, 3) := by decide +kernel
theorem dX12_tried_5 : decode cX12_tried 5 = .ok (.iload_n 1, 1) := by decide +kernel
theorem dX12_tried_6 : decode cX12_tried 6 = .ok (.iconst 0, 1) := by decide +kernel
theorem dX12_tried_7 : decode cX12_tried 7 = .ok (.iconst 4, 1) := by decide +kernel
theorem dX12_tried_8 : decode cX12_tried 8 = .ok (.invokestatic 184, 3) := by decide +kernel
theorem dX12_tried_11 : decode cX12_tried 11 = .ok (.ifCond .eq 33, 3) := by decide +kernel
theorem dX12_tried_14 : decode cX12_tried 14 = .ok (.iload_n 3, 1) := by decide +kernel
theorem dX12_tried_15 : decode cX12_tried 15 = .ok (.iconst 0, 1) := by decide +kernel
theorem dX12_tried_16 : decode cX12_tried 16 = .ok (.bipush 99, 2) := by decide +kernel
theorem dX12_tried_18 : decode cX12_tried 18 = .ok (.invokestatic 184, 3) := by decide +kernel
theorem dX12_tried_21 : decode cX12_tried 21 = .ok (.ifCond .eq 23, 3) := by decide +kernel
theorem dX12_tried_24 : decode cX12_tried 24 = .ok (.iload_n 1, 1) := by decide +kernel
theorem dX12_tried_25 : decode cX12_tried 25 = .ok (.iconst 2, 1) := by decide +kernel
theorem dX12_tried_26 : decode cX12_tried 26 = .ok (.if_icmp .ne 14, 3) := by decide +kernel
theorem dX12_tried_29 : decode cX12_tried 29 = .ok (.aload_n 0, 1) := by decide +kernel
theorem dX12_tried_30 : decode cX12_tried 30 = .ok (.iload_n 2, 1) := by decide +kernel
theorem dX12_tried_31 : decode cX12_tried 31 = .ok (.invokevirtual 433, 3) := by decide +kernel
theorem dX12_tried_34 : decode cX12_tried 34 = .ok (.ifCond .ne 12, 3) := by decide +kernel
theorem dX12_tried_37 : decode cX12_tried 37 = .ok (.goto 7, 3) := by decide +kernel
theorem dX12_tried_40 : decode cX12_tried 40 = .ok (.iload_n 2, 1) := by decide +kernel
theorem dX12_tried_41 : decode cX12_tried 41 = .ok (.ifCond .eq 5, 3) := by decide +kernel
theorem dX12_tried_44 : decode cX12_tried 44 = .ok (.iconst (-1), 1) := by decide +kernel
theorem dX12_tried_45 : decode cX12_tried 45 = .ok (.ireturn, 1) := by decide +kernel
theorem dX12_tried_46 : decode cX12_tried 46 = .ok (.aload_n 0, 1) := by decide +kernel
theorem dX12_tried_47 : decode cX12_tried 47 = .ok (.invokevirtual 453, 3) := by decide +kernel
theorem dX12_tried_50 : decode cX12_tried 50 = .ok (.aload_n 0, 1) := by decide +kernel
theorem dX12_tried_51 : decode cX12_tried 51 = .ok (.iload_n 1, 1) := by decide +kernel
theorem dX12_tried_52 : decode cX12_tried 52 = .ok (.ifCond .ne 7, 3) := by decide +kernel
theorem dX12_tried_55 : decode cX12_tried 55 = .ok (.iconst 1, 1) := by decide +kernel
theorem dX12_tried_56 : decode cX12_tried 56 = .ok (.goto 4, 3) := by decide +kernel
theorem dX12_tried_59 : decode cX12_tried 59 = .ok (.iconst 0, 1) := by decide +kernel
theorem dX12_tried_60 : decode cX12_tried 60 = .ok (.putfield 362, 3) := by decide +kernel
theorem dX12_tried_63 : decode cX12_tried 63 = .ok (.aload_n 0, 1) := by decide +kernel
theorem dX12_tried_64 : decode cX12_tried 64 = .ok (.iload_n 1, 1) := by decide +kernel
theorem dX12_tried_65 : decode cX12_tried 65 = .ok (.iconst 1, 1) := by decide +kernel
theorem dX12_tried_66 : decode cX12_tried 66 = .ok (.if_icmp .ne 7, 3) := by decide +kernel
theorem dX12_tried_69 : decode cX12_tried 69 = .ok (.iconst 1, 1) := by decide +kernel
theorem dX12_tried_70 : decode cX12_tried 70 = .ok (.goto 4, 3) := by decide +kernel
theorem dX12_tried_73 : decode cX12_tried 73 = .ok (.iconst 0, 1) := by decide +kernel
theorem dX12_tried_74 : decode cX12_tried 74 = .ok (.putfield 365, 3) := by decide +kernel
theorem dX12_tried_77 : decode cX12_tried 77 = .ok (.aload_n 0, 1) := by decide +kernel
theorem dX12_tried_78 : decode cX12_tried 78 = .ok (.iload_n 1, 1) := by decide +kernel
theorem dX12_tried_79 : decode cX12_tried 79 = .ok (.iconst 2, 1) := by decide +kernel
theorem dX12_tried_80 : decode cX12_tried 80 = .ok (.if_icmp .ne 7, 3) := by decide +kernel
theorem dX12_tried_83 : decode cX12_tried 83 = .ok (.iload_n 2, 1) := by decide +kernel
theorem dX12_tried_84 : decode cX12_tried 84 = .ok (.goto 4, 3) := by decide +kernel
theorem dX12_tried_87 : decode cX12_tried 87 = .ok (.iconst (-1), 1) := by decide +kernel
theorem dX12_tried_88 : decode cX12_tried 88 = .ok (.putfield 371, 3) := by decide +kernel
theorem dX12_tried_91 : decode cX12_tried 91 = .ok (.aload_n 0, 1) := by decide +kernel
theorem dX12_tried_92 : decode cX12_tried 92 = .ok (.iload_n 1, 1) := by decide +kernel
theorem dX12_tried_93 : decode cX12_tried 93 = .ok (.iconst 3, 1) := by decide +kernel
theorem dX12_tried_94 : decode cX12_tried 94 = .ok (.if_icmp .ne 7, 3) := by decide +kernel
theorem dX12_tried_97 : decode cX12_tried 97 = .ok (.iconst 1, 1) := by decide +kernel
theorem dX12_tried_98 : decode cX12_tried 98 = .ok (.goto 4, 3) := by decide +kernel
theorem dX12_tried_101 : decode cX12_tried 101 = .ok (.iconst 0, 1) := by decide +kernel
theorem dX12_tried_102 : decode cX12_tried 102 = .ok (.putfield 368, 3) := by decide +kernel
theorem dX12_tried_105 : decode cX12_tried 105 = .ok (.iconst 0, 1) := by decide +kernel
theorem dX12_tried_106 : decode cX12_tried 106 = .ok (.istore 4, 2) := by decide +kernel
theorem dX12_tried_108 : decode cX12_tried 108 = .ok (.iload 4, 2) := by decide +kernel
theorem dX12_tried_110 : decode cX12_tried 110 = .ok (.bipush 6, 2) := by decide +kernel
theorem dX12_tried_112 : decode cX12_tried 112 = .ok (.if_icmp .ge 26, 3) := by decide +kernel
theorem dX12_tried_115 : decode cX12_tried 115 = .ok (.iload_n 1, 1) := by decide +kernel
theorem dX12_tried_116 : decode cX12_tried 116 = .ok (.iconst 4, 1) := by decide +kernel
theorem dX12_tried_117 : decode cX12_tried 117 = .ok (.if_icmp .ne 21, 3) := by decide +kernel
theorem dX12_tried_120 : decode cX12_tried 120 = .ok (.aload_n 0, 1) := by decide +kernel
theorem dX12_tried_121 : decode cX12_tried 121 = .ok (.getfield 85, 3) := by decide +kernel
theorem dX12_tried_124 : decode cX12_tried 124 = .ok (.bipush 6, 2) := by decide +kernel
theorem dX12_tried_126 : decode cX12_tried 126 = .ok (.iload 4, 2) := by decide +kernel
theorem dX12_tried_128 : decode cX12_tried 128 = .ok (.iadd, 1) := by decide +kernel
theorem dX12_tried_129 : decode cX12_tried 129 = .ok (.bipush 99, 2) := by decide +kernel
theorem dX12_tried_131 : decode cX12_tried 131 = .ok (.iastore, 1) := by decide +kernel
theorem dX12_tried_132 : decode cX12_tried 132 = .ok (.iinc 4 1, 3) := by decide +kernel
theorem dX12_tried_135 : decode cX12_tried 135 = .ok (.goto (-27), 3) := by decide +kernel
theorem dX12_tried_138 : decode cX12_tried 138 = .ok (.aload_n 0, 1) := by decide +kernel
theorem dX12_tried_139 : decode cX12_tried 139 = .ok (.iload_n 3, 1) := by decide +kernel
theorem dX12_tried_140 : decode cX12_tried 140 = .ok (.invokevirtual 456, 3) := by decide +kernel
theorem dX12_tried_143 : decode cX12_tried 143 = .ok (.aload_n 0, 1) := by decide +kernel
theorem dX12_tried_144 : decode cX12_tried 144 = .ok (.invokevirtual 347, 3) := by decide +kernel
theorem dX12_tried_147 : decode cX12_tried 147 = .ok (.aload_n 0, 1) := by decide +kernel
theorem dX12_tried_148 : decode cX12_tried 148 = .ok (.iconst 1, 1) := by decide +kernel
theorem dX12_tried_149 : decode cX12_tried 149 = .ok (.invokevirtual 480, 3) := by decide +kernel
theorem dX12_tried_152 : decode cX12_tried 152 = .ok (.aload_n 0, 1) := by decide +kernel
theorem dX12_tried_153 : decode cX12_tried 153 = .ok (.iconst 0, 1) := by decide +kernel
theorem dX12_tried_154 : decode cX12_tried 154 = .ok (.invokevirtual 480, 3) := by decide +kernel
theorem dX12_tried_157 : decode cX12_tried 157 = .ok (.isub, 1) := by decide +kernel
theorem dX12_tried_158 : decode cX12_tried 158 = .ok (.ireturn, 1) := by decide +kernel
theorem dX12_put_0 : decode cX12_put 0 = .ok (.iconst 0, 1) := by decide +kernel
theorem dX12_put_1 : decode cX12_put 1 = .ok (.istore_n 3, 1) := by decide +kernel
theorem dX12_put_2 : decode cX12_put 2 = .ok (.iload_n 3, 1) := by decide +kernel
theorem dX12_put_3 : decode cX12_put 3 = .ok (.bipush 6, 2) := by decide +kernel
theorem dX12_put_5 : decode cX12_put 5 = .ok (.if_icmp .ge 56, 3) := by decide +kernel
theorem dX12_put_8 : decode cX12_put 8 = .ok (.aload_n 1, 1) := by decide +kernel
theorem dX12_put_9 : decode cX12_put 9 = .ok (.iload_n 2, 1) := by decide +kernel
theorem dX12_put_10 : decode cX12_put 10 = .ok (.iload_n 3, 1) := by decide +kernel
theorem dX12_put_11 : decode cX12_put 11 = .ok (.iadd, 1) := by decide +kernel
theorem dX12_put_12 : decode cX12_put 12 = .ok (.aload_n 0, 1) := by decide +kernel
theorem dX12_put_13 : decode cX12_put 13 = .ok (.getfield 85, 3) := by decide +kernel
theorem dX12_put_16 : decode cX12_put 16 = .ok (.iload_n 3, 1) := by decide +kernel
theorem dX12_put_17 : decode cX12_put 17 = .ok (.iaload, 1) := by decide +kernel
theorem dX12_put_18 : decode cX12_put 18 = .ok (.iastore, 1) := by decide +kernel
theorem dX12_put_19 : decode cX12_put 19 = .ok (.aload_n 1, 1) := by decide +kernel
theorem dX12_put_20 : decode cX12_put 20 = .ok (.iload_n 2, 1) := by decide +kernel
theorem dX12_put_21 : decode cX12_put 21 = .ok (.bipush 6, 2) := by decide +kernel
theorem dX12_put_23 : decode cX12_put 23 = .ok (.iadd, 1) := by decide +kernel
theorem dX12_put_24 : decode cX12_put 24 = .ok (.iload_n 3, 1) := by decide +kernel
theorem dX12_put_25 : decode cX12_put 25 = .ok (.iadd, 1) := by decide +kernel
theorem dX12_put_26 : decode cX12_put 26 = .ok (.aload_n 0, 1) := by decide +kernel
theorem dX12_put_27 : decode cX12_put 27 = .ok (.getfield 97, 3) := by decide +kernel
theorem dX12_put_30 : decode cX12_put 30 = .ok (.iload_n 3, 1) := by decide +kernel
theorem dX12_put_31 : decode cX12_put 31 = .ok (.baload, 1) := by decide +kernel
theorem dX12_put_32 : decode cX12_put 32 = .ok (.ifCond .eq 7, 3) := by decide +kernel
theorem dX12_put_35 : decode cX12_put 35 = .ok (.iconst 1, 1) := by decide +kernel
theorem dX12_put_36 : decode cX12_put 36 = .ok (.goto 4, 3) := by decide +kernel
theorem dX12_put_39 : decode cX12_put 39 = .ok (.iconst 0, 1) := by decide +kernel
theorem dX12_put_40 : decode cX12_put 40 = .ok (.iastore, 1) := by decide +kernel
theorem dX12_put_41 : decode cX12_put 41 = .ok (.aload_n 1, 1) := by decide +kernel
theorem dX12_put_42 : decode cX12_put 42 = .ok (.iload_n 2, 1) := by decide +kernel
theorem dX12_put_43 : decode cX12_put 43 = .ok (.bipush 12, 2) := by decide +kernel
theorem dX12_put_45 : decode cX12_put 45 = .ok (.iadd, 1) := by decide +kernel
theorem dX12_put_46 : decode cX12_put 46 = .ok (.iload_n 3, 1) := by decide +kernel
theorem dX12_put_47 : decode cX12_put 47 = .ok (.iadd, 1) := by decide +kernel
theorem dX12_put_48 : decode cX12_put 48 = .ok (.aload_n 0, 1) := by decide +kernel
theorem dX12_put_49 : decode cX12_put 49 = .ok (.getfield 100, 3) := by decide +kernel
theorem dX12_put_52 : decode cX12_put 52 = .ok (.iload_n 3, 1) := by decide +kernel
theorem dX12_put_53 : decode cX12_put 53 = .ok (.iaload, 1) := by decide +kernel
theorem dX12_put_54 : decode cX12_put 54 = .ok (.iastore, 1) := by decide +kernel
theorem dX12_put_55 : decode cX12_put 55 = .ok (.iinc 3 1, 3) := by decide +kernel
theorem dX12_put_58 : decode cX12_put 58 = .ok (.goto (-56), 3) := by decide +kernel
theorem dX12_put_61 : decode cX12_put 61 = .ok (.return_, 1) := by decide +kernel
theorem dX12_take_0 : decode cX12_take 0 = .ok (.iconst 0, 1) := by decide +kernel
theorem dX12_take_1 : decode cX12_take 1 = .ok (.istore_n 3, 1) := by decide +kernel
theorem dX12_take_2 : decode cX12_take 2 = .ok (.iload_n 3, 1) := by decide +kernel
theorem dX12_take_3 : decode cX12_take 3 = .ok (.bipush 6, 2) := by decide +kernel
theorem dX12_take_5 : decode cX12_take 5 = .ok (.if_icmp .ge 57, 3) := by decide +kernel
theorem dX12_take_8 : decode cX12_take 8 = .ok (.aload_n 0, 1) := by decide +kernel
theorem dX12_take_9 : decode cX12_take 9 = .ok (.getfield 85, 3) := by decide +kernel
theorem dX12_take_12 : decode cX12_take 12 = .ok (.iload_n 3, 1) := by decide +kernel
theorem dX12_take_13 : decode cX12_take 13 = .ok (.aload_n 1, 1) := by decide +kernel
theorem dX12_take_14 : decode cX12_take 14 = .ok (.iload_n 2, 1) := by decide +kernel
theorem dX12_take_15 : decode cX12_take 15 = .ok (.iload_n 3, 1) := by decide +kernel
theorem dX12_take_16 : decode cX12_take 16 = .ok (.iadd, 1) := by decide +kernel
theorem dX12_take_17 : decode cX12_take 17 = .ok (.iaload, 1) := by decide +kernel
theorem dX12_take_18 : decode cX12_take 18 = .ok (.iastore, 1) := by decide +kernel
theorem dX12_take_19 : decode cX12_take 19 = .ok (.aload_n 0, 1) := by decide +kernel
theorem dX12_take_20 : decode cX12_take 20 = .ok (.getfield 97, 3) := by decide +kernel
theorem dX12_take_23 : decode cX12_take 23 = .ok (.iload_n 3, 1) := by decide +kernel
theorem dX12_take_24 : decode cX12_take 24 = .ok (.aload_n 1, 1) := by decide +kernel
theorem dX12_take_25 : decode cX12_take 25 = .ok (.iload_n 2, 1) := by decide +kernel
theorem dX12_take_26 : decode cX12_take 26 = .ok (.bipush 6, 2) := by decide +kernel
theorem dX12_take_28 : decode cX12_take 28 = .ok (.iadd, 1) := by decide +kernel
theorem dX12_take_29 : decode cX12_take 29 = .ok (.iload_n 3, 1) := by decide +kernel
theorem dX12_take_30 : decode cX12_take 30 = .ok (.iadd, 1) := by decide +kernel
theorem dX12_take_31 : decode cX12_take 31 = .ok (.iaload, 1) := by decide +kernel
theorem dX12_take_32 : decode cX12_take 32 = .ok (.iconst 1, 1) := by decide +kernel
theorem dX12_take_33 : decode cX12_take 33 = .ok (.if_icmp .ne 7, 3) := by decide +kernel
theorem dX12_take_36 : decode cX12_take 36 = .ok (.iconst 1, 1) := by decide +kernel
theorem dX12_take_37 : decode cX12_take 37 = .ok (.goto 4, 3) := by decide +kernel
theorem dX12_take_40 : decode cX12_take 40 = .ok (.iconst 0, 1) := by decide +kernel
theorem dX12_take_41 : decode cX12_take 41 = .ok (.bastore, 1) := by decide +kernel
theorem dX12_take_42 : decode cX12_take 42 = .ok (.aload_n 0, 1) := by decide +kernel
theorem dX12_take_43 : decode cX12_take 43 = .ok (.getfield 100, 3) := by decide +kernel
theorem dX12_take_46 : decode cX12_take 46 = .ok (.iload_n 3, 1) := by decide +kernel
theorem dX12_take_47 : decode cX12_take 47 = .ok (.aload_n 1, 1) := by decide +kernel
theorem dX12_take_48 : decode cX12_take 48 = .ok (.iload_n 2, 1) := by decide +kernel
theorem dX12_take_49 : decode cX12_take 49 = .ok (.bipush 12, 2) := by decide +kernel
theorem dX12_take_51 : decode cX12_take 51 = .ok (.iadd, 1) := by decide +kernel
theorem dX12_take_52 : decode cX12_take 52 = .ok (.iload_n 3, 1) := by decide +kernel
theorem dX12_take_53 : decode cX12_take 53 = .ok (.iadd, 1) := by decide +kernel
theorem dX12_take_54 : decode cX12_take 54 = .ok (.iaload, 1) := by decide +kernel
theorem dX12_take_55 : decode cX12_take 55 = .ok (.iastore, 1) := by decide +kernel
theorem dX12_take_56 : decode cX12_take 56 = .ok (.iinc 3 1, 3) := by decide +kernel
theorem dX12_take_59 : decode cX12_take 59 = .ok (.goto (-57), 3) := by decide +kernel
theorem dX12_take_62 : decode cX12_take 62 = .ok (.return_, 1) := by decide +kernel
theorem dX12_remember_0 : decode cX12_remember 0 = .ok (.aload_n 0, 1) := by decide +kernel
theorem dX12_remember_1 : decode cX12_remember 1 = .ok (.getfield 353, 3) := by decide +kernel
theorem dX12_remember_4 : decode cX12_remember 4 = .ok (.bipush 20, 2) := by decide +kernel
theorem dX12_remember_6 : decode cX12_remember 6 = .ok (.if_icmp .ne 43, 3) := by decide +kernel
theorem dX12_remember_9 : decode cX12_remember 9 = .ok (.iconst 0, 1) := by decide +kernel
theorem dX12_remember_10 : decode cX12_remember 10 = .ok (.istore_n 1, 1) := by decide +kernel
theorem dX12_remember_11 : decode cX12_remember 11 = .ok (.iload_n 1, 1) := by decide +kernel
theorem dX12_remember_12 : decode cX12_remember 12 = .ok (.sipush 342, 3) := by decide +kernel
theorem dX12_remember_15 : decode cX12_remember 15 = .ok (.if_icmp .ge 24, 3) := by decide +kernel
theorem dX12_remember_18 : decode cX12_remember 18 = .ok (.aload_n 0, 1) := by decide +kernel
theorem dX12_remember_19 : decode cX12_remember 19 = .ok (.getfield 124, 3) := by decide +kernel
theorem dX12_remember_22 : decode cX12_remember 22 = .ok (.iload_n 1, 1) := by decide +kernel
theorem dX12_remember_23 : decode cX12_remember 23 = .ok (.aload_n 0, 1) := by decide +kernel
theorem dX12_remember_24 : decode cX12_remember 24 = .ok (.getfield 124, 3) := by decide +kernel
theorem dX12_remember_27 : decode cX12_remember 27 = .ok (.iload_n 1, 1) := by decide +kernel
theorem dX12_remember_28 : decode cX12_remember 28 = .ok (.bipush 18, 2) := by decide +kernel
theorem dX12_remember_30 : decode cX12_remember 30 = .ok (.iadd, 1) := by decide +kernel
theorem dX12_remember_31 : decode cX12_remember 31 = .ok (.iaload, 1) := by decide +kernel
theorem dX12_remember_32 : decode cX12_remember 32 = .ok (.iastore, 1) := by decide +kernel
theorem dX12_remember_33 : decode cX12_remember 33 = .ok (.iinc 1 1, 3) := by decide +kernel
theorem dX12_remember_36 : decode cX12_remember 36 = .ok (.goto (-25), 3) := by decide +kernel
theorem dX12_remember_39 : decode cX12_remember 39 = .ok (.aload_n 0, 1) := by decide +kernel
theorem dX12_remember_40 : decode cX12_remember 40 = .ok (.dup, 1) := by decide +kernel
theorem dX12_remember_41 : decode cX12_remember 41 = .ok (.getfield 353, 3) := by decide +kernel
theorem dX12_remember_44 : decode cX12_remember 44 = .ok (.iconst 1, 1) := by decide +kernel
theorem dX12_remember_45 : decode cX12_remember 45 = .ok (.isub, 1) := by decide +kernel
theorem dX12_remember_46 : decode cX12_remember 46 = .ok (.putfield 353, 3) := by decide +kernel
theorem dX12_remember_49 : decode cX12_remember 49 = .ok (.aload_n 0, 1) := by decide +kernel
theorem dX12_remember_50 : decode cX12_remember 50 = .ok (.aload_n 0, 1) := by decide +kernel
theorem dX12_remember_51 : decode cX12_remember 51 = .ok (.getfield 124, 3) := by decide +kernel
theorem dX12_remember_54 : decode cX12_remember 54 = .ok (.bipush 18, 2) := by decide +kernel
theorem dX12_remember_56 : decode cX12_remember 56 = .ok (.aload_n 0, 1) := by decide +kernel
theorem dX12_remember_57 : decode cX12_remember 57 = .ok (.getfield 353, 3) := by decide +kernel
theorem dX12_remember_60 : decode cX12_remember 60 = .ok (.imul, 1) := by decide +kernel
theorem dX12_remember_61 : decode cX12_remember 61 = .ok (.invokevirtual 510, 3) := by decide +kernel
theorem dX12_remember_64 : decode cX12_remember 64 = .ok (.aload_n 0, 1) := by decide +kernel
theorem dX12_remember_65 : decode cX12_remember 65 = .ok (.dup, 1) := by decide +kernel
theorem dX12_remember_66 : decode cX12_remember 66 = .ok (.getfield 353, 3) := by decide +kernel
theorem dX12_remember_69 : decode cX12_remember 69 = .ok (.iconst 1, 1) := by decide +kernel
theorem dX12_remember_70 : decode cX12_remember 70 = .ok (.iadd, 1) := by decide +kernel
theorem dX12_remember_71 : decode cX12_remember 71 = .ok (.putfield 353, 3) := by decide +kernel
theorem dX12_remember_74 : decode cX12_remember 74 = .ok (.return_, 1) := by decide +kernel
theorem dX12_undo_0 : decode cX12_undo 0 = .ok (.aload_n 0, 1) := by decide +kernel
theorem dX12_undo_1 : decode cX12_undo 1 = .ok (.iconst 0, 1) := by decide +kernel
theorem dX12_undo_2 : decode cX12_undo 2 = .ok (.putfield 139, 3) := by decide +kernel
theorem dX12_undo_5 : decode cX12_undo 5 = .ok (.aload_n 0, 1) := by decide +kernel
theorem dX12_undo_6 : decode cX12_undo 6 = .ok (.getfield 353, 3) := by decide +kernel
theorem dX12_undo_9 : decode cX12_undo 9 = .ok (.ifCond .ne 5, 3) := by decide +kernel
theorem dX12_undo_12 : decode cX12_undo 12 = .ok (.iconst (-1), 1) := by decide +kernel
theorem dX12_undo_13 : decode cX12_undo 13 = .ok (.ireturn, 1) := by decide +kernel
theorem dX12_undo_14 : decode cX12_undo 14 = .ok (.aload_n 0, 1) := by decide +kernel
theorem dX12_undo_15 : decode cX12_undo 15 = .ok (.dup, 1) := by decide +kernel
theorem dX12_undo_16 : decode cX12_undo 16 = .ok (.getfield 353, 3) := by decide +kernel
theorem dX12_undo_19 : decode cX12_undo 19 = .ok (.iconst 1, 1) := by decide +kernel
theorem dX12_undo_20 : decode cX12_undo 20 = .ok (.isub, 1) := by decide +kernel
theorem dX12_undo_21 : decode cX12_undo 21 = .ok (.putfield 353, 3) := by decide +kernel
theorem dX12_undo_24 : decode cX12_undo 24 = .ok (.aload_n 0, 1) := by decide +kernel
theorem dX12_undo_25 : decode cX12_undo 25 = .ok (.aload_n 0, 1) := by decide +kernel
theorem dX12_undo_26 : decode cX12_undo 26 = .ok (.getfield 124, 3) := by decide +kernel
theorem dX12_undo_29 : decode cX12_undo 29 = .ok (.bipush 18, 2) := by decide +kernel
theorem dX12_undo_31 : decode cX12_undo 31 = .ok (.aload_n 0, 1) := by decide +kernel
theorem dX12_undo_32 : decode cX12_undo 32 = .ok (.getfield 353, 3) := by decide +kernel
theorem dX12_undo_35 : decode cX12_undo 35 = .ok (.imul, 1) := by decide +kernel
theorem dX12_undo_36 : decode cX12_undo 36 = .ok (.invokevirtual 513, 3) := by decide +kernel
theorem dX12_undo_39 : decode cX12_undo 39 = .ok (.aload_n 0, 1) := by decide +kernel
theorem dX12_undo_40 : decode cX12_undo 40 = .ok (.getfield 353, 3) := by decide +kernel
theorem dX12_undo_43 : decode cX12_undo 43 = .ok (.ireturn, 1) := by decide +kernel
theorem dX12_keep_0 : decode cX12_keep 0 = .ok (.aload_n 0, 1) := by decide +kernel
theorem dX12_keep_1 : decode cX12_keep 1 = .ok (.iconst 0, 1) := by decide +kernel
theorem dX12_keep_2 : decode cX12_keep 2 = .ok (.putfield 139, 3) := by decide +kernel
theorem dX12_keep_5 : decode cX12_keep 5 = .ok (.aload_n 0, 1) := by decide +kernel
theorem dX12_keep_6 : decode cX12_keep 6 = .ok (.iconst 1, 1) := by decide +kernel
theorem dX12_keep_7 : decode cX12_keep 7 = .ok (.putfield 356, 3) := by decide +kernel
theorem dX12_keep_10 : decode cX12_keep 10 = .ok (.aload_n 0, 1) := by decide +kernel
theorem dX12_keep_11 : decode cX12_keep 11 = .ok (.aload_n 0, 1) := by decide +kernel
theorem dX12_keep_12 : decode cX12_keep 12 = .ok (.getfield 127, 3) := by decide +kernel
theorem dX12_keep_15 : decode cX12_keep 15 = .ok (.iconst 0, 1) := by decide +kernel
theorem dX12_keep_16 : decode cX12_keep 16 = .ok (.invokevirtual 510, 3) := by decide +kernel
theorem dX12_keep_19 : decode cX12_keep 19 = .ok (.iconst 0, 1) := by decide +kernel
theorem dX12_keep_20 : decode cX12_keep 20 = .ok (.istore_n 1, 1) := by decide +kernel
theorem dX12_keep_21 : decode cX12_keep 21 = .ok (.iload_n 1, 1) := by decide +kernel
theorem dX12_keep_22 : decode cX12_keep 22 = .ok (.bipush 6, 2) := by decide +kernel
theorem dX12_keep_24 : decode cX12_keep 24 = .ok (.if_icmp .ge 51, 3) := by decide +kernel
theorem dX12_keep_27 : decode cX12_keep 27 = .ok (.aload_n 0, 1) := by decide +kernel
theorem dX12_keep_28 : decode cX12_keep 28 = .ok (.getfield 130, 3) := by decide +kernel
theorem dX12_keep_31 : decode cX12_keep 31 = .ok (.iload_n 1, 1) := by decide +kernel
theorem dX12_keep_32 : decode cX12_keep 32 = .ok (.aload_n 0, 1) := by decide +kernel
theorem dX12_keep_33 : decode cX12_keep 33 = .ok (.getfield 88, 3) := by decide +kernel
theorem dX12_keep_36 : decode cX12_keep 36 = .ok (.iload_n 1, 1) := by decide +kernel
theorem dX12_keep_37 : decode cX12_keep 37 = .ok (.iaload, 1) := by decide +kernel
theorem dX12_keep_38 : decode cX12_keep 38 = .ok (.iastore, 1) := by decide +kernel
theorem dX12_keep_39 : decode cX12_keep 39 = .ok (.aload_n 0, 1) := by decide +kernel
theorem dX12_keep_40 : decode cX12_keep 40 = .ok (.getfield 130, 3) := by decide +kernel
theorem dX12_keep_43 : decode cX12_keep 43 = .ok (.bipush 6, 2) := by decide +kernel
theorem dX12_keep_45 : decode cX12_keep 45 = .ok (.iload_n 1, 1) := by decide +kernel
theorem dX12_keep_46 : decode cX12_keep 46 = .ok (.iadd, 1) := by decide +kernel
theorem dX12_keep_47 : decode cX12_keep 47 = .ok (.aload_n 0, 1) := by decide +kernel
theorem dX12_keep_48 : decode cX12_keep 48 = .ok (.getfield 91, 3) := by decide +kernel
theorem dX12_keep_51 : decode cX12_keep 51 = .ok (.iload_n 1, 1) := by decide +kernel
theorem dX12_keep_52 : decode cX12_keep 52 = .ok (.iaload, 1) := by decide +kernel
theorem dX12_keep_53 : decode cX12_keep 53 = .ok (.iastore, 1) := by decide +kernel
theorem dX12_keep_54 : decode cX12_keep 54 = .ok (.aload_n 0, 1) := by decide +kernel
theorem dX12_keep_55 : decode cX12_keep 55 = .ok (.getfield 130, 3) := by decide +kernel
theorem dX12_keep_58 : decode cX12_keep 58 = .ok (.bipush 12, 2) := by decide +kernel
theorem dX12_keep_60 : decode cX12_keep 60 = .ok (.iload_n 1, 1) := by decide +kernel
theorem dX12_keep_61 : decode cX12_keep 61 = .ok (.iadd, 1) := by decide +kernel
theorem dX12_keep_62 : decode cX12_keep 62 = .ok (.aload_n 0, 1) := by decide +kernel
theorem dX12_keep_63 : decode cX12_keep 63 = .ok (.getfield 94, 3) := by decide +kernel
theorem dX12_keep_66 : decode cX12_keep 66 = .ok (.iload_n 1, 1) := by decide +kernel
theorem dX12_keep_67 : decode cX12_keep 67 = .ok (.iaload, 1) := by decide +kernel
theorem dX12_keep_68 : decode cX12_keep 68 = .ok (.iastore, 1) := by decide +kernel
theorem dX12_keep_69 : decode cX12_keep 69 = .ok (.iinc 1 1, 3) := by decide +kernel
theorem dX12_keep_72 : decode cX12_keep 72 = .ok (.goto (-51), 3) := by decide +kernel
theorem dX12_keep_75 : decode cX12_keep 75 = .ok (.aload_n 0, 1) := by decide +kernel
theorem dX12_keep_76 : decode cX12_keep 76 = .ok (.getfield 130, 3) := by decide +kernel
theorem dX12_keep_79 : decode cX12_keep 79 = .ok (.bipush 18, 2) := by decide +kernel
theorem dX12_keep_81 : decode cX12_keep 81 = .ok (.aload_n 0, 1) := by decide +kernel
theorem dX12_keep_82 : decode cX12_keep 82 = .ok (.getfield 103, 3) := by decide +kernel
theorem dX12_keep_85 : decode cX12_keep 85 = .ok (.iconst 0, 1) := by decide +kernel
theorem dX12_keep_86 : decode cX12_keep 86 = .ok (.iaload, 1) := by decide +kernel
theorem dX12_keep_87 : decode cX12_keep 87 = .ok (.iastore, 1) := by decide +kernel
theorem dX12_keep_88 : decode cX12_keep 88 = .ok (.aload_n 0, 1) := by decide +kernel
theorem dX12_keep_89 : decode cX12_keep 89 = .ok (.getfield 130, 3) := by decide +kernel
theorem dX12_keep_92 : decode cX12_keep 92 = .ok (.bipush 19, 2) := by decide +kernel
theorem dX12_keep_94 : decode cX12_keep 94 = .ok (.aload_n 0, 1) := by decide +kernel
theorem dX12_keep_95 : decode cX12_keep 95 = .ok (.getfield 106, 3) := by decide +kernel
theorem dX12_keep_98 : decode cX12_keep 98 = .ok (.iconst 0, 1) := by decide +kernel
theorem dX12_keep_99 : decode cX12_keep 99 = .ok (.iaload, 1) := by decide +kernel
theorem dX12_keep_100 : decode cX12_keep 100 = .ok (.iastore, 1) := by decide +kernel
theorem dX12_keep_101 : decode cX12_keep 101 = .ok (.aload_n 0, 1) := by decide +kernel
theorem dX12_keep_102 : decode cX12_keep 102 = .ok (.aload_n 0, 1) := by decide +kernel
theorem dX12_keep_103 : decode cX12_keep 103 = .ok (.getfield 343, 3) := by decide +kernel
theorem dX12_keep_106 : decode cX12_keep 106 = .ok (.putfield 516, 3) := by decide +kernel
theorem dX12_keep_109 : decode cX12_keep 109 = .ok (.aload_n 0, 1) := by decide +kernel
theorem dX12_keep_110 : decode cX12_keep 110 = .ok (.getfield 103, 3) := by decide +kernel
theorem dX12_keep_113 : decode cX12_keep 113 = .ok (.iconst 0, 1) := by decide +kernel
theorem dX12_keep_114 : decode cX12_keep 114 = .ok (.iaload, 1) := by decide +kernel
theorem dX12_keep_115 : decode cX12_keep 115 = .ok (.ireturn, 1) := by decide +kernel
theorem dX12_back_0 : decode cX12_back 0 = .ok (.aload_n 0, 1) := by decide +kernel
theorem dX12_back_1 : decode cX12_back 1 = .ok (.iconst 0, 1) := by decide +kernel
theorem dX12_back_2 : decode cX12_back 2 = .ok (.putfield 139, 3) := by decide +kernel
theorem dX12_back_5 : decode cX12_back 5 = .ok (.aload_n 0, 1) := by decide +kernel
theorem dX12_back_6 : decode cX12_back 6 = .ok (.getfield 356, 3) := by decide +kernel
theorem dX12_back_9 : decode cX12_back 9 = .ok (.ifCond .ne 5, 3) := by decide +kernel
theorem dX12_back_12 : decode cX12_back 12 = .ok (.iconst (-1), 1) := by decide +kernel
theorem dX12_back_13 : decode cX12_back 13 = .ok (.ireturn, 1) := by decide +kernel
theorem dX12_back_14 : decode cX12_back 14 = .ok (.aload_n 0, 1) := by decide +kernel
theorem dX12_back_15 : decode cX12_back 15 = .ok (.aload_n 0, 1) := by decide +kernel
theorem dX12_back_16 : decode cX12_back 16 = .ok (.getfield 127, 3) := by decide +kernel
theorem dX12_back_19 : decode cX12_back 19 = .ok (.iconst 0, 1) := by decide +kernel
theorem dX12_back_20 : decode cX12_back 20 = .ok (.invokevirtual 513, 3) := by decide +kernel
theorem dX12_back_23 : decode cX12_back 23 = .ok (.iconst 0, 1) := by decide +kernel
theorem dX12_back_24 : decode cX12_back 24 = .ok (.istore_n 1, 1) := by decide +kernel
theorem dX12_back_25 : decode cX12_back 25 = .ok (.iload_n 1, 1) := by decide +kernel
theorem dX12_back_26 : decode cX12_back 26 = .ok (.bipush 6, 2) := by decide +kernel
theorem dX12_back_28 : decode cX12_back 28 = .ok (.if_icmp .ge 51, 3) := by decide +kernel
theorem dX12_back_31 : decode cX12_back 31 = .ok (.aload_n 0, 1) := by decide +kernel
theorem dX12_back_32 : decode cX12_back 32 = .ok (.getfield 88, 3) := by decide +kernel
theorem dX12_back_35 : decode cX12_back 35 = .ok (.iload_n 1, 1) := by decide +kernel
theorem dX12_back_36 : decode cX12_back 36 = .ok (.aload_n 0, 1) := by decide +kernel
theorem dX12_back_37 : decode cX12_back 37 = .ok (.getfield 130, 3) := by decide +kernel
theorem dX12_back_40 : decode cX12_back 40 = .ok (.iload_n 1, 1) := by decide +kernel
theorem dX12_back_41 : decode cX12_back 41 = .ok (.iaload, 1) := by decide +kernel
theorem dX12_back_42 : decode cX12_back 42 = .ok (.iastore, 1) := by decide +kernel
theorem dX12_back_43 : decode cX12_back 43 = .ok (.aload_n 0, 1) := by decide +kernel
theorem dX12_back_44 : decode cX12_back 44 = .ok (.getfield 91, 3) := by decide +kernel
theorem dX12_back_47 : decode cX12_back 47 = .ok (.iload_n 1, 1) := by decide +kernel
theorem dX12_back_48 : decode cX12_back 48 = .ok (.aload_n 0, 1) := by decide +kernel
theorem dX12_back_49 : decode cX12_back 49 = .ok (.getfield 130, 3) := by decide +kernel
theorem dX12_back_52 : decode cX12_back 52 = .ok (.bipush 6, 2) := by decide +kernel
theorem dX12_back_54 : decode cX12_back 54 = .ok (.iload_n 1, 1) := by decide +kernel
theorem dX12_back_55 : decode cX12_back 55 = .ok (.iadd, 1) := by decide +kernel
theorem dX12_back_56 : decode cX12_back 56 = .ok (.iaload, 1) := by decide +kernel
theorem dX12_back_57 : decode cX12_back 57 = .ok (.iastore, 1) := by decide +kernel
theorem dX12_back_58 : decode cX12_back 58 = .ok (.aload_n 0, 1) := by decide +kernel
theorem dX12_back_59 : decode cX12_back 59 = .ok (.getfield 94, 3) := by decide +kernel
theorem dX12_back_62 : decode cX12_back 62 = .ok (.iload_n 1, 1) := by decide +kernel
theorem dX12_back_63 : decode cX12_back 63 = .ok (.aload_n 0, 1) := by decide +kernel
theorem dX12_back_64 : decode cX12_back 64 = .ok (.getfield 130, 3) := by decide +kernel
theorem dX12_back_67 : decode cX12_back 67 = .ok (.bipush 12, 2) := by decide +kernel
theorem dX12_back_69 : decode cX12_back 69 = .ok (.iload_n 1, 1) := by decide +kernel
theorem dX12_back_70 : decode cX12_back 70 = .ok (.iadd, 1) := by decide +kernel
theorem dX12_back_71 : decode cX12_back 71 = .ok (.iaload, 1) := by decide +kernel
theorem dX12_back_72 : decode cX12_back 72 = .ok (.iastore, 1) := by decide +kernel
theorem dX12_back_73 : decode cX12_back 73 = .ok (.iinc 1 1, 3) := by decide +kernel
theorem dX12_back_76 : decode cX12_back 76 = .ok (.goto (-51), 3) := by decide +kernel
theorem dX12_back_79 : decode cX12_back 79 = .ok (.aload_n 0, 1) := by decide +kernel
theorem dX12_back_80 : decode cX12_back 80 = .ok (.getfield 103, 3) := by decide +kernel
theorem dX12_back_83 : decode cX12_back 83 = .ok (.iconst 0, 1) := by decide +kernel
theorem dX12_back_84 : decode cX12_back 84 = .ok (.aload_n 0, 1) := by decide +kernel
theorem dX12_back_85 : decode cX12_back 85 = .ok (.getfield 130, 3) := by decide +kernel
theorem dX12_back_88 : decode cX12_back 88 = .ok (.bipush 18, 2) := by decide +kernel
theorem dX12_back_90 : decode cX12_back 90 = .ok (.iaload, 1) := by decide +kernel
theorem dX12_back_91 : decode cX12_back 91 = .ok (.iastore, 1) := by decide +kernel
theorem dX12_back_92 : decode cX12_back 92 = .ok (.aload_n 0, 1) := by decide +kernel
theorem dX12_back_93 : decode cX12_back 93 = .ok (.getfield 106, 3) := by decide +kernel
theorem dX12_back_96 : decode cX12_back 96 = .ok (.iconst 0, 1) := by decide +kernel
theorem dX12_back_97 : decode cX12_back 97 = .ok (.aload_n 0, 1) := by decide +kernel
theorem dX12_back_98 : decode cX12_back 98 = .ok (.getfield 130, 3) := by decide +kernel
theorem dX12_back_101 : decode cX12_back 101 = .ok (.bipush 19, 2) := by decide +kernel
theorem dX12_back_103 : decode cX12_back 103 = .ok (.iaload, 1) := by decide +kernel
theorem dX12_back_104 : decode cX12_back 104 = .ok (.iastore, 1) := by decide +kernel
theorem dX12_back_105 : decode cX12_back 105 = .ok (.aload_n 0, 1) := by decide +kernel
theorem dX12_back_106 : decode cX12_back 106 = .ok (.aload_n 0, 1) := by decide +kernel
theorem dX12_back_107 : decode cX12_back 107 = .ok (.getfield 516, 3) := by decide +kernel
theorem dX12_back_110 : decode cX12_back 110 = .ok (.putfield 343, 3) := by decide +kernel
theorem dX12_back_113 : decode cX12_back 113 = .ok (.aload_n 0, 1) := by decide +kernel
theorem dX12_back_114 : decode cX12_back 114 = .ok (.iconst 0, 1) := by decide +kernel
theorem dX12_back_115 : decode cX12_back 115 = .ok (.putfield 353, 3) := by decide +kernel
theorem dX12_back_118 : decode cX12_back 118 = .ok (.aload_n 0, 1) := by decide +kernel
theorem dX12_back_119 : decode cX12_back 119 = .ok (.getfield 103, 3) := by decide +kernel
theorem dX12_back_122 : decode cX12_back 122 = .ok (.iconst 0, 1) := by decide +kernel
theorem dX12_back_123 : decode cX12_back 123 = .ok (.iaload, 1) := by decide +kernel
theorem dX12_back_124 : decode cX12_back 124 = .ok (.ireturn, 1) := by decide +kernel
theorem dX12_count_0 : decode cX12_count 0 = .ok (.aload_n 0, 1) := by decide +kernel
theorem dX12_count_1 : decode cX12_count 1 = .ok (.iconst 0, 1) := by decide +kernel
theorem dX12_count_2 : decode cX12_count 2 = .ok (.putfield 139, 3) := by decide +kernel
theorem dX12_count_5 : decode cX12_count 5 = .ok (.iconst 0, 1) := by decide +kernel
theorem dX12_count_6 : decode cX12_count 6 = .ok (.istore_n 2, 1) := by decide +kernel
theorem dX12_count_7 : decode cX12_count 7 = .ok (.iload_n 1, 1) := by decide +kernel
theorem dX12_count_8 : decode cX12_count 8 = .ok (.tableswitch 215 0 12 #[68, 73, 78, 83, 88, 95, 122, 128, 163, 193, 200, 205, 210], 68) := by decide +kernel
theorem dX12_count_76 : decode cX12_count 76 = .ok (.aload_n 0, 1) := by decide +kernel
theorem dX12_count_77 : decode cX12_count 77 = .ok (.getfield 219, 3) := by decide +kernel
theorem dX12_count_80 : decode cX12_count 80 = .ok (.ireturn, 1) := by decide +kernel
theorem dX12_count_81 : decode cX12_count 81 = .ok (.aload_n 0, 1) := by decide +kernel
theorem dX12_count_82 : decode cX12_count 82 = .ok (.getfield 222, 3) := by decide +kernel
theorem dX12_count_85 : decode cX12_count 85 = .ok (.ireturn, 1) := by decide +kernel
theorem dX12_count_86 : decode cX12_count 86 = .ok (.aload_n 0, 1) := by decide +kernel
theorem dX12_count_87 : decode cX12_count 87 = .ok (.getfield 225, 3) := by decide +kernel
theorem dX12_count_90 : decode cX12_count 90 = .ok (.ireturn, 1) := by decide +kernel
theorem dX12_count_91 : decode cX12_count 91 = .ok (.aload_n 0, 1) := by decide +kernel
theorem dX12_count_92 : decode cX12_count 92 = .ok (.getfield 228, 3) := by decide +kernel
theorem dX12_count_95 : decode cX12_count 95 = .ok (.ireturn, 1) := by decide +kernel
theorem dX12_count_96 : decode cX12_count 96 = .ok (.aload_n 0, 1) := by decide +kernel
theorem dX12_count_97 : decode cX12_count 97 = .ok (.getfield 103, 3) := by decide +kernel
theorem dX12_count_100 : decode cX12_count 100 = .ok (.iconst 0, 1) := by decide +kernel
theorem dX12_count_101 : decode cX12_count 101 = .ok (.iaload, 1) := by decide +kernel
theorem dX12_count_102 : decode cX12_count 102 = .ok (.ireturn, 1) := by decide +kernel
theorem dX12_count_103 : decode cX12_count 103 = .ok (.iconst 0, 1) := by decide +kernel
theorem dX12_count_104 : decode cX12_count 104 = .ok (.istore_n 3, 1) := by decide +kernel
theorem dX12_count_105 : decode cX12_count 105 = .ok (.iload_n 3, 1) := by decide +kernel
theorem dX12_count_106 : decode cX12_count 106 = .ok (.aload_n 0, 1) := by decide +kernel
theorem dX12_count_107 : decode cX12_count 107 = .ok (.getfield 219, 3) := by decide +kernel
theorem dX12_count_110 : decode cX12_count 110 = .ok (.if_icmp .ge 18, 3) := by decide +kernel
theorem dX12_count_113 : decode cX12_count 113 = .ok (.iload_n 2, 1) := by decide +kernel
theorem dX12_count_114 : decode cX12_count 114 = .ok (.aload_n 0, 1) := by decide +kernel
theorem dX12_count_115 : decode cX12_count 115 = .ok (.getfield 91, 3) := by decide +kernel
theorem dX12_count_118 : decode cX12_count 118 = .ok (.iload_n 3, 1) := by decide +kernel
theorem dX12_count_119 : decode cX12_count 119 = .ok (.iaload, 1) := by decide +kernel
theorem dX12_count_120 : decode cX12_count 120 = .ok (.iadd, 1) := by decide +kernel
theorem dX12_count_121 : decode cX12_count 121 = .ok (.istore_n 2, 1) := by decide +kernel
theorem dX12_count_122 : decode cX12_count 122 = .ok (.iinc 3 1, 3) := by decide +kernel
theorem dX12_count_125 : decode cX12_count 125 = .ok (.goto (-20), 3) := by decide +kernel
theorem dX12_count_128 : decode cX12_count 128 = .ok (.iload_n 2, 1) := by decide +kernel
theorem dX12_count_129 : decode cX12_count 129 = .ok (.ireturn, 1) := by decide +kernel
theorem dX12_count_130 : decode cX12_count 130 = .ok (.aload_n 0, 1) := by decide +kernel
theorem dX12_count_131 : decode cX12_count 131 = .ok (.iconst 0, 1) := by decide +kernel
theorem dX12_count_132 : decode cX12_count 132 = .ok (.invokevirtual 480, 3) := by decide +kernel
theorem dX12_count_135 : decode cX12_count 135 = .ok (.ireturn, 1) := by decide +kernel
theorem dX12_count_136 : decode cX12_count 136 = .ok (.iconst 0, 1) := by decide +kernel
theorem dX12_count_137 : decode cX12_count 137 = .ok (.istore_n 3, 1) := by decide +kernel
theorem dX12_count_138 : decode cX12_count 138 = .ok (.iload_n 3, 1) := by decide +kernel
theorem dX12_count_139 : decode cX12_count 139 = .ok (.aload_n 0, 1) := by decide +kernel
theorem dX12_count_140 : decode cX12_count 140 = .ok (.getfield 219, 3) := by decide +kernel
theorem dX12_count_143 : decode cX12_count 143 = .ok (.if_icmp .ge 26, 3) := by decide +kernel
theorem dX12_count_146 : decode cX12_count 146 = .ok (.iload_n 2, 1) := by decide +kernel
theorem dX12_count_147 : decode cX12_count 147 = .ok (.aload_n 0, 1) := by decide +kernel
theorem dX12_count_148 : decode cX12_count 148 = .ok (.getfield 97, 3) := by decide +kernel
theorem dX12_count_151 : decode cX12_count 151 = .ok (.iload_n 3, 1) := by decide +kernel
theorem dX12_count_152 : decode cX12_count 152 = .ok (.baload, 1) := by decide +kernel
theorem dX12_count_153 : decode cX12_count 153 = .ok (.ifCond .eq 7, 3) := by decide +kernel
theorem dX12_count_156 : decode cX12_count 156 = .ok (.iconst 1, 1) := by decide +kernel
theorem dX12_count_157 : decode cX12_count 157 = .ok (.goto 4, 3) := by decide +kernel
theorem dX12_count_160 : decode cX12_count 160 = .ok (.iconst 0, 1) := by decide +kernel
theorem dX12_count_161 : decode cX12_count 161 = .ok (.iadd, 1) := by decide +kernel
theorem dX12_count_162 : decode cX12_count 162 = .ok (.istore_n 2, 1) := by decide +kernel
theorem dX12_count_163 : decode cX12_count 163 = .ok (.iinc 3 1, 3) := by decide +kernel
theorem dX12_count_166 : decode cX12_count 166 = .ok (.goto (-28), 3) := by decide +kernel
theorem dX12_count_169 : decode cX12_count 169 = .ok (.iload_n 2, 1) := by decide +kernel
theorem dX12_count_170 : decode cX12_count 170 = .ok (.ireturn, 1) := by decide +kernel
theorem dX12_count_171 : decode cX12_count 171 = .ok (.iconst 0, 1) := by decide +kernel
theorem dX12_count_172 : decode cX12_count 172 = .ok (.istore_n 3, 1) := by decide +kernel
theorem dX12_count_173 : decode cX12_count 173 = .ok (.iload_n 3, 1) := by decide +kernel
theorem dX12_count_174 : decode cX12_count 174 = .ok (.aload_n 0, 1) := by decide +kernel
theorem dX12_count_175 : decode cX12_count 175 = .ok (.getfield 219, 3) := by decide +kernel
theorem dX12_count_178 : decode cX12_count 178 = .ok (.if_icmp .ge 21, 3) := by decide +kernel
theorem dX12_count_181 : decode cX12_count 181 = .ok (.iload_n 2, 1) := by decide +kernel
theorem dX12_count_182 : decode cX12_count 182 = .ok (.aload_n 0, 1) := by decide +kernel
theorem dX12_count_183 : decode cX12_count 183 = .ok (.getfield 100, 3) := by decide +kernel
theorem dX12_count_186 : decode cX12_count 186 = .ok (.iload_n 3, 1) := by decide +kernel
theorem dX12_count_187 : decode cX12_count 187 = .ok (.iaload, 1) := by decide +kernel
theorem dX12_count_188 : decode cX12_count 188 = .ok (.invokestatic 387, 3) := by decide +kernel
theorem dX12_count_191 : decode cX12_count 191 = .ok (.iadd, 1) := by decide +kernel
theorem dX12_count_192 : decode cX12_count 192 = .ok (.istore_n 2, 1) := by decide +kernel
theorem dX12_count_193 : decode cX12_count 193 = .ok (.iinc 3 1, 3) := by decide +kernel
theorem dX12_count_196 : decode cX12_count 196 = .ok (.goto (-23), 3) := by decide +kernel
theorem dX12_count_199 : decode cX12_count 199 = .ok (.iload_n 2, 1) := by decide +kernel
theorem dX12_count_200 : decode cX12_count 200 = .ok (.ireturn, 1) := by decide +kernel
theorem dX12_count_201 : decode cX12_count 201 = .ok (.aload_n 0, 1) := by decide +kernel
theorem dX12_count_202 : decode cX12_count 202 = .ok (.getfield 106, 3) := by decide +kernel
theorem dX12_count_205 : decode cX12_count 205 = .ok (.iconst 0, 1) := by decide +kernel
theorem dX12_count_206 : decode cX12_count 206 = .ok (.iaload, 1) := by decide +kernel
theorem dX12_count_207 : decode cX12_count 207 = .ok (.ireturn, 1) := by decide +kernel
theorem dX12_count_208 : decode cX12_count 208 = .ok (.aload_n 0, 1) := by decide +kernel
theorem dX12_count_209 : decode cX12_count 209 = .ok (.getfield 350, 3) := by decide +kernel
theorem dX12_count_212 : decode cX12_count 212 = .ok (.ireturn, 1) := by decide +kernel
theorem dX12_count_213 : decode cX12_count 213 = .ok (.aload_n 0, 1) := by decide +kernel
theorem dX12_count_214 : decode cX12_count 214 = .ok (.invokevirtual 495, 3) := by decide +kernel
theorem dX12_count_217 : decode cX12_count 217 = .ok (.ireturn, 1) := by decide +kernel
theorem dX12_count_218 : decode cX12_count 218 = .ok (.aload_n 0, 1) := by decide +kernel
theorem dX12_count_219 : decode cX12_count 219 = .ok (.getfield 353, 3) := by decide +kernel
theorem dX12_count_222 : decode cX12_count 222 = .ok (.ireturn, 1) := by decide +kernel
theorem dX12_count_223 : decode cX12_count 223 = .ok (.iconst (-1), 1) := by decide +kernel
theorem dX12_count_224 : decode cX12_count 224 = .ok (.ireturn, 1) := by decide +kernel

theorem dX12_holds_0 : decode cX12_holds 0 = .ok (.aload_n 0, 1) := by decide +kernel
theorem dX12_holds_1 : decode cX12_holds 1 = .ok (.aload_n 0, 1) := by decide +kernel
theorem dX12_holds_2 : decode cX12_holds 2 = .ok (.getfield 252, 3) := by decide +kernel
theorem dX12_holds_5 : decode cX12_holds 5 = .ok (.putfield 347, 3) := by decide +kernel
theorem dX12_holds_8 : decode cX12_holds 8 = .ok (.iconst 0, 1) := by decide +kernel
theorem dX12_holds_9 : decode cX12_holds 9 = .ok (.istore_n 1, 1) := by decide +kernel
theorem dX12_holds_10 : decode cX12_holds 10 = .ok (.iload_n 1, 1) := by decide +kernel
theorem dX12_holds_11 : decode cX12_holds 11 = .ok (.iconst 3, 1) := by decide +kernel
theorem dX12_holds_12 : decode cX12_holds 12 = .ok (.if_icmp .ge 121, 3) := by decide +kernel
theorem dX12_holds_15 : decode cX12_holds 15 = .ok (.iconst 3, 1) := by decide +kernel
theorem dX12_holds_16 : decode cX12_holds 16 = .ok (.iload_n 1, 1) := by decide +kernel
theorem dX12_holds_17 : decode cX12_holds 17 = .ok (.iadd, 1) := by decide +kernel
theorem dX12_holds_18 : decode cX12_holds 18 = .ok (.istore_n 2, 1) := by decide +kernel
theorem dX12_holds_19 : decode cX12_holds 19 = .ok (.aload_n 0, 1) := by decide +kernel
theorem dX12_holds_20 : decode cX12_holds 20 = .ok (.getfield 17, 3) := by decide +kernel
theorem dX12_holds_23 : decode cX12_holds 23 = .ok (.iload_n 1, 1) := by decide +kernel
theorem dX12_holds_24 : decode cX12_holds 24 = .ok (.aload_n 0, 1) := by decide +kernel
theorem dX12_holds_25 : decode cX12_holds 25 = .ok (.getfield 17, 3) := by decide +kernel
theorem dX12_holds_28 : decode cX12_holds 28 = .ok (.iload_n 2, 1) := by decide +kernel
theorem dX12_holds_29 : decode cX12_holds 29 = .ok (.laload, 1) := by decide +kernel
theorem dX12_holds_30 : decode cX12_holds 30 = .ok (.lastore, 1) := by decide +kernel
theorem dX12_holds_31 : decode cX12_holds 31 = .ok (.aload_n 0, 1) := by decide +kernel
theorem dX12_holds_32 : decode cX12_holds 32 = .ok (.getfield 27, 3) := by decide +kernel
theorem dX12_holds_35 : decode cX12_holds 35 = .ok (.iload_n 1, 1) := by decide +kernel
theorem dX12_holds_36 : decode cX12_holds 36 = .ok (.iload_n 1, 1) := by decide +kernel
theorem dX12_holds_37 : decode cX12_holds 37 = .ok (.aload_n 0, 1) := by decide +kernel
theorem dX12_holds_38 : decode cX12_holds 38 = .ok (.getfield 252, 3) := by decide +kernel
theorem dX12_holds_41 : decode cX12_holds 41 = .ok (.if_icmp .ge 12, 3) := by decide +kernel
theorem dX12_holds_44 : decode cX12_holds 44 = .ok (.aload_n 0, 1) := by decide +kernel
theorem dX12_holds_45 : decode cX12_holds 45 = .ok (.getfield 27, 3) := by decide +kernel
theorem dX12_holds_48 : decode cX12_holds 48 = .ok (.iload_n 2, 1) := by decide +kernel
theorem dX12_holds_49 : decode cX12_holds 49 = .ok (.iaload, 1) := by decide +kernel
theorem dX12_holds_50 : decode cX12_holds 50 = .ok (.goto 4, 3) := by decide +kernel
theorem dX12_holds_53 : decode cX12_holds 53 = .ok (.iconst 0, 1) := by decide +kernel
theorem dX12_holds_54 : decode cX12_holds 54 = .ok (.iastore, 1) := by decide +kernel
theorem dX12_holds_55 : decode cX12_holds 55 = .ok (.aload_n 0, 1) := by decide +kernel
theorem dX12_holds_56 : decode cX12_holds 56 = .ok (.getfield 30, 3) := by decide +kernel
theorem dX12_holds_59 : decode cX12_holds 59 = .ok (.iload_n 1, 1) := by decide +kernel
theorem dX12_holds_60 : decode cX12_holds 60 = .ok (.aload_n 0, 1) := by decide +kernel
theorem dX12_holds_61 : decode cX12_holds 61 = .ok (.getfield 30, 3) := by decide +kernel
theorem dX12_holds_64 : decode cX12_holds 64 = .ok (.iload_n 2, 1) := by decide +kernel
theorem dX12_holds_65 : decode cX12_holds 65 = .ok (.iaload, 1) := by decide +kernel
theorem dX12_holds_66 : decode cX12_holds 66 = .ok (.iastore, 1) := by decide +kernel
theorem dX12_holds_67 : decode cX12_holds 67 = .ok (.aload_n 0, 1) := by decide +kernel
theorem dX12_holds_68 : decode cX12_holds 68 = .ok (.getfield 33, 3) := by decide +kernel
theorem dX12_holds_71 : decode cX12_holds 71 = .ok (.iload_n 1, 1) := by decide +kernel
theorem dX12_holds_72 : decode cX12_holds 72 = .ok (.iload_n 1, 1) := by decide +kernel
theorem dX12_holds_73 : decode cX12_holds 73 = .ok (.aload_n 0, 1) := by decide +kernel
theorem dX12_holds_74 : decode cX12_holds 74 = .ok (.getfield 252, 3) := by decide +kernel
theorem dX12_holds_77 : decode cX12_holds 77 = .ok (.if_icmp .ge 12, 3) := by decide +kernel
theorem dX12_holds_80 : decode cX12_holds 80 = .ok (.aload_n 0, 1) := by decide +kernel
theorem dX12_holds_81 : decode cX12_holds 81 = .ok (.getfield 33, 3) := by decide +kernel
theorem dX12_holds_84 : decode cX12_holds 84 = .ok (.iload_n 2, 1) := by decide +kernel
theorem dX12_holds_85 : decode cX12_holds 85 = .ok (.iaload, 1) := by decide +kernel
theorem dX12_holds_86 : decode cX12_holds 86 = .ok (.goto 4, 3) := by decide +kernel
theorem dX12_holds_89 : decode cX12_holds 89 = .ok (.iconst 0, 1) := by decide +kernel
theorem dX12_holds_90 : decode cX12_holds 90 = .ok (.iastore, 1) := by decide +kernel
theorem dX12_holds_91 : decode cX12_holds 91 = .ok (.aload_n 0, 1) := by decide +kernel
theorem dX12_holds_92 : decode cX12_holds 92 = .ok (.getfield 36, 3) := by decide +kernel
theorem dX12_holds_95 : decode cX12_holds 95 = .ok (.iload_n 1, 1) := by decide +kernel
theorem dX12_holds_96 : decode cX12_holds 96 = .ok (.aload_n 0, 1) := by decide +kernel
theorem dX12_holds_97 : decode cX12_holds 97 = .ok (.getfield 36, 3) := by decide +kernel
theorem dX12_holds_100 : decode cX12_holds 100 = .ok (.iload_n 2, 1) := by decide +kernel
theorem dX12_holds_101 : decode cX12_holds 101 = .ok (.iaload, 1) := by decide +kernel
theorem dX12_holds_102 : decode cX12_holds 102 = .ok (.iastore, 1) := by decide +kernel
theorem dX12_holds_103 : decode cX12_holds 103 = .ok (.aload_n 0, 1) := by decide +kernel
theorem dX12_holds_104 : decode cX12_holds 104 = .ok (.getfield 39, 3) := by decide +kernel
theorem dX12_holds_107 : decode cX12_holds 107 = .ok (.iload_n 1, 1) := by decide +kernel
theorem dX12_holds_108 : decode cX12_holds 108 = .ok (.aload_n 0, 1) := by decide +kernel
theorem dX12_holds_109 : decode cX12_holds 109 = .ok (.getfield 39, 3) := by decide +kernel
theorem dX12_holds_112 : decode cX12_holds 112 = .ok (.iload_n 2, 1) := by decide +kernel
theorem dX12_holds_113 : decode cX12_holds 113 = .ok (.iaload, 1) := by decide +kernel
theorem dX12_holds_114 : decode cX12_holds 114 = .ok (.iastore, 1) := by decide +kernel
theorem dX12_holds_115 : decode cX12_holds 115 = .ok (.aload_n 0, 1) := by decide +kernel
theorem dX12_holds_116 : decode cX12_holds 116 = .ok (.getfield 42, 3) := by decide +kernel
theorem dX12_holds_119 : decode cX12_holds 119 = .ok (.iload_n 1, 1) := by decide +kernel
theorem dX12_holds_120 : decode cX12_holds 120 = .ok (.aload_n 0, 1) := by decide +kernel
theorem dX12_holds_121 : decode cX12_holds 121 = .ok (.getfield 42, 3) := by decide +kernel
theorem dX12_holds_124 : decode cX12_holds 124 = .ok (.iload_n 2, 1) := by decide +kernel
theorem dX12_holds_125 : decode cX12_holds 125 = .ok (.iaload, 1) := by decide +kernel
theorem dX12_holds_126 : decode cX12_holds 126 = .ok (.iastore, 1) := by decide +kernel
theorem dX12_holds_127 : decode cX12_holds 127 = .ok (.iinc 1 1, 3) := by decide +kernel
theorem dX12_holds_130 : decode cX12_holds 130 = .ok (.goto (-120), 3) := by decide +kernel
theorem dX12_holds_133 : decode cX12_holds 133 = .ok (.iconst 0, 1) := by decide +kernel
theorem dX12_holds_134 : decode cX12_holds 134 = .ok (.istore_n 1, 1) := by decide +kernel
theorem dX12_holds_135 : decode cX12_holds 135 = .ok (.iload_n 1, 1) := by decide +kernel
theorem dX12_holds_136 : decode cX12_holds 136 = .ok (.bipush 9, 2) := by decide +kernel
theorem dX12_holds_138 : decode cX12_holds 138 = .ok (.if_icmp .ge 69, 3) := by decide +kernel
theorem dX12_holds_141 : decode cX12_holds 141 = .ok (.aload_n 0, 1) := by decide +kernel
theorem dX12_holds_142 : decode cX12_holds 142 = .ok (.getfield 21, 3) := by decide +kernel
theorem dX12_holds_145 : decode cX12_holds 145 = .ok (.iload_n 1, 1) := by decide +kernel
theorem dX12_holds_146 : decode cX12_holds 146 = .ok (.aload_n 0, 1) := by decide +kernel
theorem dX12_holds_147 : decode cX12_holds 147 = .ok (.getfield 21, 3) := by decide +kernel
theorem dX12_holds_150 : decode cX12_holds 150 = .ok (.bipush 9, 2) := by decide +kernel
theorem dX12_holds_152 : decode cX12_holds 152 = .ok (.iload_n 1, 1) := by decide +kernel
theorem dX12_holds_153 : decode cX12_holds 153 = .ok (.iadd, 1) := by decide +kernel
theorem dX12_holds_154 : decode cX12_holds 154 = .ok (.laload, 1) := by decide +kernel
theorem dX12_holds_155 : decode cX12_holds 155 = .ok (.lastore, 1) := by decide +kernel
theorem dX12_holds_156 : decode cX12_holds 156 = .ok (.aload_n 0, 1) := by decide +kernel
theorem dX12_holds_157 : decode cX12_holds 157 = .ok (.getfield 45, 3) := by decide +kernel
theorem dX12_holds_160 : decode cX12_holds 160 = .ok (.iload_n 1, 1) := by decide +kernel
theorem dX12_holds_161 : decode cX12_holds 161 = .ok (.aload_n 0, 1) := by decide +kernel
theorem dX12_holds_162 : decode cX12_holds 162 = .ok (.getfield 45, 3) := by decide +kernel
theorem dX12_holds_165 : decode cX12_holds 165 = .ok (.bipush 9, 2) := by decide +kernel
theorem dX12_holds_167 : decode cX12_holds 167 = .ok (.iload_n 1, 1) := by decide +kernel
theorem dX12_holds_168 : decode cX12_holds 168 = .ok (.iadd, 1) := by decide +kernel
theorem dX12_holds_169 : decode cX12_holds 169 = .ok (.iaload, 1) := by decide +kernel
theorem dX12_holds_170 : decode cX12_holds 170 = .ok (.iastore, 1) := by decide +kernel
theorem dX12_holds_171 : decode cX12_holds 171 = .ok (.aload_n 0, 1) := by decide +kernel
theorem dX12_holds_172 : decode cX12_holds 172 = .ok (.getfield 48, 3) := by decide +kernel
theorem dX12_holds_175 : decode cX12_holds 175 = .ok (.iload_n 1, 1) := by decide +kernel
theorem dX12_holds_176 : decode cX12_holds 176 = .ok (.aload_n 0, 1) := by decide +kernel
theorem dX12_holds_177 : decode cX12_holds 177 = .ok (.getfield 48, 3) := by decide +kernel
theorem dX12_holds_180 : decode cX12_holds 180 = .ok (.bipush 9, 2) := by decide +kernel
theorem dX12_holds_182 : decode cX12_holds 182 = .ok (.iload_n 1, 1) := by decide +kernel
theorem dX12_holds_183 : decode cX12_holds 183 = .ok (.iadd, 1) := by decide +kernel
theorem dX12_holds_184 : decode cX12_holds 184 = .ok (.iaload, 1) := by decide +kernel
theorem dX12_holds_185 : decode cX12_holds 185 = .ok (.iastore, 1) := by decide +kernel
theorem dX12_holds_186 : decode cX12_holds 186 = .ok (.aload_n 0, 1) := by decide +kernel
theorem dX12_holds_187 : decode cX12_holds 187 = .ok (.getfield 51, 3) := by decide +kernel
theorem dX12_holds_190 : decode cX12_holds 190 = .ok (.iload_n 1, 1) := by decide +kernel
theorem dX12_holds_191 : decode cX12_holds 191 = .ok (.aload_n 0, 1) := by decide +kernel
theorem dX12_holds_192 : decode cX12_holds 192 = .ok (.getfield 51, 3) := by decide +kernel
theorem dX12_holds_195 : decode cX12_holds 195 = .ok (.bipush 9, 2) := by decide +kernel
theorem dX12_holds_197 : decode cX12_holds 197 = .ok (.iload_n 1, 1) := by decide +kernel
theorem dX12_holds_198 : decode cX12_holds 198 = .ok (.iadd, 1) := by decide +kernel
theorem dX12_holds_199 : decode cX12_holds 199 = .ok (.iaload, 1) := by decide +kernel
theorem dX12_holds_200 : decode cX12_holds 200 = .ok (.iastore, 1) := by decide +kernel
theorem dX12_holds_201 : decode cX12_holds 201 = .ok (.iinc 1 1, 3) := by decide +kernel
theorem dX12_holds_204 : decode cX12_holds 204 = .ok (.goto (-69), 3) := by decide +kernel
theorem dX12_holds_207 : decode cX12_holds 207 = .ok (.iconst 0, 1) := by decide +kernel
theorem dX12_holds_208 : decode cX12_holds 208 = .ok (.istore_n 1, 1) := by decide +kernel
theorem dX12_holds_209 : decode cX12_holds 209 = .ok (.iload_n 1, 1) := by decide +kernel
theorem dX12_holds_210 : decode cX12_holds 210 = .ok (.bipush 12, 2) := by decide +kernel
theorem dX12_holds_212 : decode cX12_holds 212 = .ok (.if_icmp .ge 151, 3) := by decide +kernel
theorem dX12_holds_215 : decode cX12_holds 215 = .ok (.aload_n 0, 1) := by decide +kernel
theorem dX12_holds_216 : decode cX12_holds 216 = .ok (.getfield 54, 3) := by decide +kernel
theorem dX12_holds_219 : decode cX12_holds 219 = .ok (.iload_n 1, 1) := by decide +kernel
theorem dX12_holds_220 : decode cX12_holds 220 = .ok (.aload_n 0, 1) := by decide +kernel
theorem dX12_holds_221 : decode cX12_holds 221 = .ok (.getfield 54, 3) := by decide +kernel
theorem dX12_holds_224 : decode cX12_holds 224 = .ok (.bipush 12, 2) := by decide +kernel
theorem dX12_holds_226 : decode cX12_holds 226 = .ok (.iload_n 1, 1) := by decide +kernel
theorem dX12_holds_227 : decode cX12_holds 227 = .ok (.iadd, 1) := by decide +kernel
theorem dX12_holds_228 : decode cX12_holds 228 = .ok (.iaload, 1) := by decide +kernel
theorem dX12_holds_229 : decode cX12_holds 229 = .ok (.iastore, 1) := by decide +kernel
theorem dX12_holds_230 : decode cX12_holds 230 = .ok (.aload_n 0, 1) := by decide +kernel
theorem dX12_holds_231 : decode cX12_holds 231 = .ok (.getfield 57, 3) := by decide +kernel
theorem dX12_holds_234 : decode cX12_holds 234 = .ok (.iload_n 1, 1) := by decide +kernel
theorem dX12_holds_235 : decode cX12_holds 235 = .ok (.aload_n 0, 1) := by decide +kernel
theorem dX12_holds_236 : decode cX12_holds 236 = .ok (.getfield 57, 3) := by decide +kernel
theorem dX12_holds_239 : decode cX12_holds 239 = .ok (.bipush 12, 2) := by decide +kernel
theorem dX12_holds_241 : decode cX12_holds 241 = .ok (.iload_n 1, 1) := by decide +kernel
theorem dX12_holds_242 : decode cX12_holds 242 = .ok (.iadd, 1) := by decide +kernel
theorem dX12_holds_243 : decode cX12_holds 243 = .ok (.iaload, 1) := by decide +kernel
theorem dX12_holds_244 : decode cX12_holds 244 = .ok (.iastore, 1) := by decide +kernel
theorem dX12_holds_245 : decode cX12_holds 245 = .ok (.aload_n 0, 1) := by decide +kernel
theorem dX12_holds_246 : decode cX12_holds 246 = .ok (.getfield 24, 3) := by decide +kernel
theorem dX12_holds_249 : decode cX12_holds 249 = .ok (.iload_n 1, 1) := by decide +kernel
theorem dX12_holds_250 : decode cX12_holds 250 = .ok (.aload_n 0, 1) := by decide +kernel
theorem dX12_holds_251 : decode cX12_holds 251 = .ok (.getfield 24, 3) := by decide +kernel
theorem dX12_holds_254 : decode cX12_holds 254 = .ok (.bipush 12, 2) := by decide +kernel
theorem dX12_holds_256 : decode cX12_holds 256 = .ok (.iload_n 1, 1) := by decide +kernel
theorem dX12_holds_257 : decode cX12_holds 257 = .ok (.iadd, 1) := by decide +kernel
theorem dX12_holds_258 : decode cX12_holds 258 = .ok (.laload, 1) := by decide +kernel
theorem dX12_holds_259 : decode cX12_holds 259 = .ok (.lastore, 1) := by decide +kernel
theorem dX12_holds_260 : decode cX12_holds 260 = .ok (.aload_n 0, 1) := by decide +kernel
theorem dX12_holds_261 : decode cX12_holds 261 = .ok (.getfield 60, 3) := by decide +kernel
theorem dX12_holds_264 : decode cX12_holds 264 = .ok (.iload_n 1, 1) := by decide +kernel
theorem dX12_holds_265 : decode cX12_holds 265 = .ok (.aload_n 0, 1) := by decide +kernel
theorem dX12_holds_266 : decode cX12_holds 266 = .ok (.getfield 60, 3) := by decide +kernel
theorem dX12_holds_269 : decode cX12_holds 269 = .ok (.bipush 12, 2) := by decide +kernel
theorem dX12_holds_271 : decode cX12_holds 271 = .ok (.iload_n 1, 1) := by decide +kernel
theorem dX12_holds_272 : decode cX12_holds 272 = .ok (.iadd, 1) := by decide +kernel
theorem dX12_holds_273 : decode cX12_holds 273 = .ok (.iaload, 1) := by decide +kernel
theorem dX12_holds_274 : decode cX12_holds 274 = .ok (.iastore, 1) := by decide +kernel
theorem dX12_holds_275 : decode cX12_holds 275 = .ok (.aload_n 0, 1) := by decide +kernel
theorem dX12_holds_276 : decode cX12_holds 276 = .ok (.getfield 63, 3) := by decide +kernel
theorem dX12_holds_279 : decode cX12_holds 279 = .ok (.iload_n 1, 1) := by decide +kernel
theorem dX12_holds_280 : decode cX12_holds 280 = .ok (.aload_n 0, 1) := by decide +kernel
theorem dX12_holds_281 : decode cX12_holds 281 = .ok (.getfield 63, 3) := by decide +kernel
theorem dX12_holds_284 : decode cX12_holds 284 = .ok (.bipush 12, 2) := by decide +kernel
theorem dX12_holds_286 : decode cX12_holds 286 = .ok (.iload_n 1, 1) := by decide +kernel
theorem dX12_holds_287 : decode cX12_holds 287 = .ok (.iadd, 1) := by decide +kernel
theorem dX12_holds_288 : decode cX12_holds 288 = .ok (.iaload, 1) := by decide +kernel
theorem dX12_holds_289 : decode cX12_holds 289 = .ok (.iastore, 1) := by decide +kernel
theorem dX12_holds_290 : decode cX12_holds 290 = .ok (.aload_n 0, 1) := by decide +kernel
theorem dX12_holds_291 : decode cX12_holds 291 = .ok (.getfield 66, 3) := by decide +kernel
theorem dX12_holds_294 : decode cX12_holds 294 = .ok (.iload_n 1, 1) := by decide +kernel
theorem dX12_holds_295 : decode cX12_holds 295 = .ok (.aload_n 0, 1) := by decide +kernel
theorem dX12_holds_296 : decode cX12_holds 296 = .ok (.getfield 66, 3) := by decide +kernel
theorem dX12_holds_299 : decode cX12_holds 299 = .ok (.bipush 12, 2) := by decide +kernel
theorem dX12_holds_301 : decode cX12_holds 301 = .ok (.iload_n 1, 1) := by decide +kernel
theorem dX12_holds_302 : decode cX12_holds 302 = .ok (.iadd, 1) := by decide +kernel
theorem dX12_holds_303 : decode cX12_holds 303 = .ok (.iaload, 1) := by decide +kernel
theorem dX12_holds_304 : decode cX12_holds 304 = .ok (.iastore, 1) := by decide +kernel
theorem dX12_holds_305 : decode cX12_holds 305 = .ok (.aload_n 0, 1) := by decide +kernel
theorem dX12_holds_306 : decode cX12_holds 306 = .ok (.getfield 69, 3) := by decide +kernel
theorem dX12_holds_309 : decode cX12_holds 309 = .ok (.iload_n 1, 1) := by decide +kernel
theorem dX12_holds_310 : decode cX12_holds 310 = .ok (.aload_n 0, 1) := by decide +kernel
theorem dX12_holds_311 : decode cX12_holds 311 = .ok (.getfield 69, 3) := by decide +kernel
theorem dX12_holds_314 : decode cX12_holds 314 = .ok (.bipush 12, 2) := by decide +kernel
theorem dX12_holds_316 : decode cX12_holds 316 = .ok (.iload_n 1, 1) := by decide +kernel
theorem dX12_holds_317 : decode cX12_holds 317 = .ok (.iadd, 1) := by decide +kernel
theorem dX12_holds_318 : decode cX12_holds 318 = .ok (.iaload, 1) := by decide +kernel
theorem dX12_holds_319 : decode cX12_holds 319 = .ok (.iastore, 1) := by decide +kernel
theorem dX12_holds_320 : decode cX12_holds 320 = .ok (.aload_n 0, 1) := by decide +kernel
theorem dX12_holds_321 : decode cX12_holds 321 = .ok (.getfield 72, 3) := by decide +kernel
theorem dX12_holds_324 : decode cX12_holds 324 = .ok (.iload_n 1, 1) := by decide +kernel
theorem dX12_holds_325 : decode cX12_holds 325 = .ok (.aload_n 0, 1) := by decide +kernel
theorem dX12_holds_326 : decode cX12_holds 326 = .ok (.getfield 72, 3) := by decide +kernel
theorem dX12_holds_329 : decode cX12_holds 329 = .ok (.bipush 12, 2) := by decide +kernel
theorem dX12_holds_331 : decode cX12_holds 331 = .ok (.iload_n 1, 1) := by decide +kernel
theorem dX12_holds_332 : decode cX12_holds 332 = .ok (.iadd, 1) := by decide +kernel
theorem dX12_holds_333 : decode cX12_holds 333 = .ok (.iaload, 1) := by decide +kernel
theorem dX12_holds_334 : decode cX12_holds 334 = .ok (.iastore, 1) := by decide +kernel
theorem dX12_holds_335 : decode cX12_holds 335 = .ok (.aload_n 0, 1) := by decide +kernel
theorem dX12_holds_336 : decode cX12_holds 336 = .ok (.getfield 75, 3) := by decide +kernel
theorem dX12_holds_339 : decode cX12_holds 339 = .ok (.iload_n 1, 1) := by decide +kernel
theorem dX12_holds_340 : decode cX12_holds 340 = .ok (.aload_n 0, 1) := by decide +kernel
theorem dX12_holds_341 : decode cX12_holds 341 = .ok (.getfield 75, 3) := by decide +kernel
theorem dX12_holds_344 : decode cX12_holds 344 = .ok (.bipush 12, 2) := by decide +kernel
theorem dX12_holds_346 : decode cX12_holds 346 = .ok (.iload_n 1, 1) := by decide +kernel
theorem dX12_holds_347 : decode cX12_holds 347 = .ok (.iadd, 1) := by decide +kernel
theorem dX12_holds_348 : decode cX12_holds 348 = .ok (.iaload, 1) := by decide +kernel
theorem dX12_holds_349 : decode cX12_holds 349 = .ok (.iastore, 1) := by decide +kernel
theorem dX12_holds_350 : decode cX12_holds 350 = .ok (.aload_n 0, 1) := by decide +kernel
theorem dX12_holds_351 : decode cX12_holds 351 = .ok (.getfield 84, 3) := by decide +kernel
theorem dX12_holds_354 : decode cX12_holds 354 = .ok (.iload_n 1, 1) := by decide +kernel
theorem dX12_holds_355 : decode cX12_holds 355 = .ok (.iconst 0, 1) := by decide +kernel
theorem dX12_holds_356 : decode cX12_holds 356 = .ok (.bastore, 1) := by decide +kernel
theorem dX12_holds_357 : decode cX12_holds 357 = .ok (.iinc 1 1, 3) := by decide +kernel
theorem dX12_holds_360 : decode cX12_holds 360 = .ok (.goto (-151), 3) := by decide +kernel
theorem dX12_holds_363 : decode cX12_holds 363 = .ok (.iconst 0, 1) := by decide +kernel
theorem dX12_holds_364 : decode cX12_holds 364 = .ok (.istore_n 1, 1) := by decide +kernel
theorem dX12_holds_365 : decode cX12_holds 365 = .ok (.iload_n 1, 1) := by decide +kernel
theorem dX12_holds_366 : decode cX12_holds 366 = .ok (.bipush 36, 2) := by decide +kernel
theorem dX12_holds_368 : decode cX12_holds 368 = .ok (.if_icmp .ge 39, 3) := by decide +kernel
theorem dX12_holds_371 : decode cX12_holds 371 = .ok (.aload_n 0, 1) := by decide +kernel
theorem dX12_holds_372 : decode cX12_holds 372 = .ok (.getfield 78, 3) := by decide +kernel
theorem dX12_holds_375 : decode cX12_holds 375 = .ok (.iload_n 1, 1) := by decide +kernel
theorem dX12_holds_376 : decode cX12_holds 376 = .ok (.aload_n 0, 1) := by decide +kernel
theorem dX12_holds_377 : decode cX12_holds 377 = .ok (.getfield 78, 3) := by decide +kernel
theorem dX12_holds_380 : decode cX12_holds 380 = .ok (.bipush 36, 2) := by decide +kernel
theorem dX12_holds_382 : decode cX12_holds 382 = .ok (.iload_n 1, 1) := by decide +kernel
theorem dX12_holds_383 : decode cX12_holds 383 = .ok (.iadd, 1) := by decide +kernel
theorem dX12_holds_384 : decode cX12_holds 384 = .ok (.iaload, 1) := by decide +kernel
theorem dX12_holds_385 : decode cX12_holds 385 = .ok (.iastore, 1) := by decide +kernel
theorem dX12_holds_386 : decode cX12_holds 386 = .ok (.aload_n 0, 1) := by decide +kernel
theorem dX12_holds_387 : decode cX12_holds 387 = .ok (.getfield 81, 3) := by decide +kernel
theorem dX12_holds_390 : decode cX12_holds 390 = .ok (.iload_n 1, 1) := by decide +kernel
theorem dX12_holds_391 : decode cX12_holds 391 = .ok (.aload_n 0, 1) := by decide +kernel
theorem dX12_holds_392 : decode cX12_holds 392 = .ok (.getfield 81, 3) := by decide +kernel
theorem dX12_holds_395 : decode cX12_holds 395 = .ok (.bipush 36, 2) := by decide +kernel
theorem dX12_holds_397 : decode cX12_holds 397 = .ok (.iload_n 1, 1) := by decide +kernel
theorem dX12_holds_398 : decode cX12_holds 398 = .ok (.iadd, 1) := by decide +kernel
theorem dX12_holds_399 : decode cX12_holds 399 = .ok (.iaload, 1) := by decide +kernel
theorem dX12_holds_400 : decode cX12_holds 400 = .ok (.iastore, 1) := by decide +kernel
theorem dX12_holds_401 : decode cX12_holds 401 = .ok (.iinc 1 1, 3) := by decide +kernel
theorem dX12_holds_404 : decode cX12_holds 404 = .ok (.goto (-39), 3) := by decide +kernel
theorem dX12_holds_407 : decode cX12_holds 407 = .ok (.iconst 0, 1) := by decide +kernel
theorem dX12_holds_408 : decode cX12_holds 408 = .ok (.istore_n 1, 1) := by decide +kernel
theorem dX12_holds_409 : decode cX12_holds 409 = .ok (.iload_n 1, 1) := by decide +kernel
theorem dX12_holds_410 : decode cX12_holds 410 = .ok (.aload_n 0, 1) := by decide +kernel
theorem dX12_holds_411 : decode cX12_holds 411 = .ok (.getfield 239, 3) := by decide +kernel
theorem dX12_holds_414 : decode cX12_holds 414 = .ok (.if_icmp .ge 41, 3) := by decide +kernel
theorem dX12_holds_417 : decode cX12_holds 417 = .ok (.aload_n 0, 1) := by decide +kernel
theorem dX12_holds_418 : decode cX12_holds 418 = .ok (.getfield 88, 3) := by decide +kernel
theorem dX12_holds_421 : decode cX12_holds 421 = .ok (.iload_n 1, 1) := by decide +kernel
theorem dX12_holds_422 : decode cX12_holds 422 = .ok (.aload_n 0, 1) := by decide +kernel
theorem dX12_holds_423 : decode cX12_holds 423 = .ok (.getfield 88, 3) := by decide +kernel
theorem dX12_holds_426 : decode cX12_holds 426 = .ok (.sipush 700, 3) := by decide +kernel
theorem dX12_holds_429 : decode cX12_holds 429 = .ok (.iload_n 1, 1) := by decide +kernel
theorem dX12_holds_430 : decode cX12_holds 430 = .ok (.iadd, 1) := by decide +kernel
theorem dX12_holds_431 : decode cX12_holds 431 = .ok (.iaload, 1) := by decide +kernel
theorem dX12_holds_432 : decode cX12_holds 432 = .ok (.iastore, 1) := by decide +kernel
theorem dX12_holds_433 : decode cX12_holds 433 = .ok (.aload_n 0, 1) := by decide +kernel
theorem dX12_holds_434 : decode cX12_holds 434 = .ok (.getfield 91, 3) := by decide +kernel
theorem dX12_holds_437 : decode cX12_holds 437 = .ok (.iload_n 1, 1) := by decide +kernel
theorem dX12_holds_438 : decode cX12_holds 438 = .ok (.aload_n 0, 1) := by decide +kernel
theorem dX12_holds_439 : decode cX12_holds 439 = .ok (.getfield 91, 3) := by decide +kernel
theorem dX12_holds_442 : decode cX12_holds 442 = .ok (.sipush 700, 3) := by decide +kernel
theorem dX12_holds_445 : decode cX12_holds 445 = .ok (.iload_n 1, 1) := by decide +kernel
theorem dX12_holds_446 : decode cX12_holds 446 = .ok (.iadd, 1) := by decide +kernel
theorem dX12_holds_447 : decode cX12_holds 447 = .ok (.iaload, 1) := by decide +kernel
theorem dX12_holds_448 : decode cX12_holds 448 = .ok (.iastore, 1) := by decide +kernel
theorem dX12_holds_449 : decode cX12_holds 449 = .ok (.iinc 1 1, 3) := by decide +kernel
theorem dX12_holds_452 : decode cX12_holds 452 = .ok (.goto (-43), 3) := by decide +kernel
theorem dX12_holds_455 : decode cX12_holds 455 = .ok (.return_, 1) := by decide +kernel
theorem okX12_holds_409 {E : Ev} {X : Cx} {S : Sh} {Z : Option Nat} {Q : Hp → Prop} {a0 : Nat} (O : Ok E X yX12_holds cX12_holds 3 none 1 24 0 0 (qV S Z Q)) : ∀ (n : Nat) (h : Hp) (x1 : Int32), wX12_holds_409 S a0 Q n h x1 → G E X 0 0 S Z h 409 [some (vr a0), some (vi x1), none] [] := by
  intro n
  induction n with
  | zero => intro h x1 hw; exact hw.elim
  | succ n hB409 =>
    intro h x1 hw
    have hw : wX12_holds_409b S a0 Q (wX12_holds_409 S a0 Q n) h x1 := hw
    unfold wX12_holds_409b at hw
    refine g_iload_n O dX12_holds_409 rfl ?_
    refine g_aload_n O dX12_holds_410 rfl ?_
    obtain ⟨c411, hw⟩ := hw
    refine gf_X12_steps O dX12_holds_411 fl_X12_239 c411 ?_
    refine g_icmp_ge (tgt := 455) O dX12_holds_414 rfl (fun q414 => ?_) (fun q414 => ?_)
    · have hw := hw.1 q414
      exact g_return O dX12_holds_455 ⟨rfl, rfl, rfl, hw⟩
    · have hw := hw.2 q414
      refine g_aload_n O dX12_holds_417 rfl ?_
      refine gf_X12_what O dX12_holds_418 fl_X12_88 c411 ?_
      refine g_iload_n O dX12_holds_421 rfl ?_
      refine g_aload_n O dX12_holds_422 rfl ?_
      refine gf_X12_what O dX12_holds_423 fl_X12_88 c411 ?_
      refine g_sipush O dX12_holds_426 ks_700 ?_
      refine g_iload_n O dX12_holds_429 rfl ?_
      refine g_iadd O dX12_holds_430 ?_
      obtain ⟨c431, hw⟩ := hw
      refine g_iaload O dX12_holds_431 c431.1 c431.2 ?_
      obtain ⟨c432, hw⟩ := hw
      refine g_iastore O dX12_holds_432 c432.1 c432.2 ?_
      refine g_nmH (fun h432 e432 => ?_)
      have hw := hw h432 e432
      refine g_aload_n O dX12_holds_433 rfl ?_
      refine gf_X12_which O dX12_holds_434 fl_X12_91 c411 ?_
      refine g_iload_n O dX12_holds_437 rfl ?_
      refine g_aload_n O dX12_holds_438 rfl ?_
      refine gf_X12_which O dX12_holds_439 fl_X12_91 c411 ?_
      refine g_sipush O dX12_holds_442 ks_700 ?_
      refine g_iload_n O dX12_holds_445 rfl ?_
      refine g_iadd O dX12_holds_446 ?_
      obtain ⟨c447, hw⟩ := hw
      refine g_iaload O dX12_holds_447 c447.1 c447.2 ?_
      obtain ⟨c448, hw⟩ := hw
      refine g_iastore O dX12_holds_448 c448.1 c448.2 ?_
      refine g_iinc (lc' := [some (vr a0), some (vi (x1 + (1 : Int32))), none]) O dX12_holds_449 rfl kv_1 rfl rfl ?_
      refine g_goto (tgt := 409) O dX12_holds_452 rfl ?_
      exact hB409 _ _ hw
theorem okX12_holds_j407 {E : Ev} {X : Cx} {S : Sh} {Z : Option Nat} {Q : Hp → Prop} {h : Hp} {a0 : Nat} (O : Ok E X yX12_holds cX12_holds 3 none 1 24 0 0 (qV S Z Q)) (hw : wX12_holds_j407 S h a0 Q) : G E X 0 0 S Z h 407 [some (vr a0), none, none] [] := by
  unfold wX12_holds_j407 at hw
  refine g_iconst O dX12_holds_407 kv_0 ?_
  refine g_istore_n (lc' := [some (vr a0), some (vi (0 : Int32)), none]) O dX12_holds_408 rfl (Nat.le_of_ble_eq_true rfl) rfl ?_
  obtain ⟨n409, hw⟩ := hw
  exact okX12_holds_409 O n409 _ _ hw
theorem okX12_holds_365 {E : Ev} {X : Cx} {S : Sh} {Z : Option Nat} {Q : Hp → Prop} {a0 : Nat} (O : Ok E X yX12_holds cX12_holds 3 none 1 24 0 0 (qV S Z Q)) : ∀ (n : Nat) (h : Hp) (x1 : Int32), wX12_holds_365 S a0 Q n h x1 → G E X 0 0 S Z h 365 [some (vr a0), some (vi x1), none] [] := by
  intro n
  induction n with
  | zero => intro h x1 hw; exact hw.elim
  | succ n hB365 =>
    intro h x1 hw
    have hw : wX12_holds_365b S a0 Q (wX12_holds_365 S a0 Q n) h x1 := hw
    unfold wX12_holds_365b at hw
    refine g_iload_n O dX12_holds_365 rfl ?_
    refine g_bipush O dX12_holds_366 kb_36 ?_
    refine g_icmp_ge (tgt := 407) O dX12_holds_368 rfl (fun q368 => ?_) (fun q368 => ?_)
    · have hw := hw.1 q368
      refine g_mask [true, false, false] rfl rfl ?_
      exact okX12_holds_j407 O hw
    · have hw := hw.2 q368
      refine g_aload_n O dX12_holds_371 rfl ?_
      obtain ⟨c372, hw⟩ := hw
      refine gf_X12_sumFrom O dX12_holds_372 fl_X12_78 c372 ?_
      refine g_iload_n O dX12_holds_375 rfl ?_
      refine g_aload_n O dX12_holds_376 rfl ?_
      refine gf_X12_sumFrom O dX12_holds_377 fl_X12_78 c372 ?_
      refine g_bipush O dX12_holds_380 kb_36 ?_
      refine g_iload_n O dX12_holds_382 rfl ?_
      refine g_iadd O dX12_holds_383 ?_
      obtain ⟨c384, hw⟩ := hw
      refine g_iaload O dX12_holds_384 c384.1 c384.2 ?_
      obtain ⟨c385, hw⟩ := hw
      refine g_iastore O dX12_holds_385 c385.1 c385.2 ?_
      refine g_nmH (fun h385 e385 => ?_)
      have hw := hw h385 e385
      refine g_aload_n O dX12_holds_386 rfl ?_
      refine gf_X12_sumTo O dX12_holds_387 fl_X12_81 c372 ?_
      refine g_iload_n O dX12_holds_390 rfl ?_
      refine g_aload_n O dX12_holds_391 rfl ?_
      refine gf_X12_sumTo O dX12_holds_392 fl_X12_81 c372 ?_
      refine g_bipush O dX12_holds_395 kb_36 ?_
      refine g_iload_n O dX12_holds_397 rfl ?_
      refine g_iadd O dX12_holds_398 ?_
      obtain ⟨c399, hw⟩ := hw
      refine g_iaload O dX12_holds_399 c399.1 c399.2 ?_
      obtain ⟨c400, hw⟩ := hw
      refine g_iastore O dX12_holds_400 c400.1 c400.2 ?_
      refine g_iinc (lc' := [some (vr a0), some (vi (x1 + (1 : Int32))), none]) O dX12_holds_401 rfl kv_1 rfl rfl ?_
      refine g_goto (tgt := 365) O dX12_holds_404 rfl ?_
      exact hB365 _ _ hw
theorem okX12_holds_j363 {E : Ev} {X : Cx} {S : Sh} {Z : Option Nat} {Q : Hp → Prop} {h : Hp} {a0 : Nat} (O : Ok E X yX12_holds cX12_holds 3 none 1 24 0 0 (qV S Z Q)) (hw : wX12_holds_j363 S h a0 Q) : G E X 0 0 S Z h 363 [some (vr a0), none, none] [] := by
  unfold wX12_holds_j363 at hw
  refine g_iconst O dX12_holds_363 kv_0 ?_
  refine g_istore_n (lc' := [some (vr a0), some (vi (0 : Int32)), none]) O dX12_holds_364 rfl (Nat.le_of_ble_eq_true rfl) rfl ?_
  obtain ⟨n365, hw⟩ := hw
  exact okX12_holds_365 O n365 _ _ hw
theorem okX12_holds_209 {E : Ev} {X : Cx} {S : Sh} {Z : Option Nat} {Q : Hp → Prop} {a0 : Nat} (O : Ok E X yX12_holds cX12_holds 3 none 1 24 0 0 (qV S Z Q)) : ∀ (n : Nat) (h : Hp) (x1 : Int32), wX12_holds_209 S a0 Q n h x1 → G E X 0 0 S Z h 209 [some (vr a0), some (vi x1), none] [] := by
  intro n
  induction n with
  | zero => intro h x1 hw; exact hw.elim
  | succ n hB209 =>
    intro h x1 hw
    have hw : wX12_holds_209b S a0 Q (wX12_holds_209 S a0 Q n) h x1 := hw
    unfold wX12_holds_209b at hw
    refine g_iload_n O dX12_holds_209 rfl ?_
    refine g_bipush O dX12_holds_210 kb_12 ?_
    refine g_icmp_ge (tgt := 363) O dX12_holds_212 rfl (fun q212 => ?_) (fun q212 => ?_)
    · have hw := hw.1 q212
      refine g_mask [true, false, false] rfl rfl ?_
      exact okX12_holds_j363 O hw
    · have hw := hw.2 q212
      refine g_aload_n O dX12_holds_215 rfl ?_
      obtain ⟨c216, hw⟩ := hw
      refine gf_X12_lawFrom O dX12_holds_216 fl_X12_54 c216 ?_
      refine g_iload_n O dX12_holds_219 rfl ?_
      refine g_aload_n O dX12_holds_220 rfl ?_
      refine gf_X12_lawFrom O dX12_holds_221 fl_X12_54 c216 ?_
      refine g_bipush O dX12_holds_224 kb_12 ?_
      refine g_iload_n O dX12_holds_226 rfl ?_
      refine g_iadd O dX12_holds_227 ?_
      obtain ⟨c228, hw⟩ := hw
      refine g_iaload O dX12_holds_228 c228.1 c228.2 ?_
      obtain ⟨c229, hw⟩ := hw
      refine g_iastore O dX12_holds_229 c229.1 c229.2 ?_
      refine g_nmH (fun h229 e229 => ?_)
      have hw := hw h229 e229
      refine g_aload_n O dX12_holds_230 rfl ?_
      refine gf_X12_lawTo O dX12_holds_231 fl_X12_57 c216 ?_
      refine g_iload_n O dX12_holds_234 rfl ?_
      refine g_aload_n O dX12_holds_235 rfl ?_
      refine gf_X12_lawTo O dX12_holds_236 fl_X12_57 c216 ?_
      refine g_bipush O dX12_holds_239 kb_12 ?_
      refine g_iload_n O dX12_holds_241 rfl ?_
      refine g_iadd O dX12_holds_242 ?_
      obtain ⟨c243, hw⟩ := hw
      refine g_iaload O dX12_holds_243 c243.1 c243.2 ?_
      obtain ⟨c244, hw⟩ := hw
      refine g_iastore O dX12_holds_244 c244.1 c244.2 ?_
      refine g_nmH (fun h244 e244 => ?_)
      have hw := hw h244 e244
      refine g_aload_n O dX12_holds_245 rfl ?_
      refine gf_X12_eventName O dX12_holds_246 fl_X12_24 c216 ?_
      refine g_iload_n O dX12_holds_249 rfl ?_
      refine g_aload_n O dX12_holds_250 rfl ?_
      refine gf_X12_eventName O dX12_holds_251 fl_X12_24 c216 ?_
      refine g_bipush O dX12_holds_254 kb_12 ?_
      refine g_iload_n O dX12_holds_256 rfl ?_
      refine g_iadd O dX12_holds_257 ?_
      obtain ⟨c258, hw⟩ := hw
      refine g_laload O dX12_holds_258 c258.1 c258.2 ?_
      obtain ⟨c259, hw⟩ := hw
      refine g_lastore O dX12_holds_259 c259.1 c259.2 ?_
      refine g_nmH (fun h259 e259 => ?_)
      have hw := hw h259 e259
      refine g_aload_n O dX12_holds_260 rfl ?_
      refine gf_X12_eventOf O dX12_holds_261 fl_X12_60 c216 ?_
      refine g_iload_n O dX12_holds_264 rfl ?_
      refine g_aload_n O dX12_holds_265 rfl ?_
      refine gf_X12_eventOf O dX12_holds_266 fl_X12_60 c216 ?_
      refine g_bipush O dX12_holds_269 kb_12 ?_
      refine g_iload_n O dX12_holds_271 rfl ?_
      refine g_iadd O dX12_holds_272 ?_
      obtain ⟨c273, hw⟩ := hw
      refine g_iaload O dX12_holds_273 c273.1 c273.2 ?_
      obtain ⟨c274, hw⟩ := hw
      refine g_iastore O dX12_holds_274 c274.1 c274.2 ?_
      refine g_nmH (fun h274 e274 => ?_)
      have hw := hw h274 e274
      refine g_aload_n O dX12_holds_275 rfl ?_
      refine gf_X12_firstPick O dX12_holds_276 fl_X12_63 c216 ?_
      refine g_iload_n O dX12_holds_279 rfl ?_
      refine g_aload_n O dX12_holds_280 rfl ?_
      refine gf_X12_firstPick O dX12_holds_281 fl_X12_63 c216 ?_
      refine g_bipush O dX12_holds_284 kb_12 ?_
      refine g_iload_n O dX12_holds_286 rfl ?_
      refine g_iadd O dX12_holds_287 ?_
      obtain ⟨c288, hw⟩ := hw
      refine g_iaload O dX12_holds_288 c288.1 c288.2 ?_
      obtain ⟨c289, hw⟩ := hw
      refine g_iastore O dX12_holds_289 c289.1 c289.2 ?_
      refine g_nmH (fun h289 e289 => ?_)
      have hw := hw h289 e289
      refine g_aload_n O dX12_holds_290 rfl ?_
      refine gf_X12_lastPick O dX12_holds_291 fl_X12_66 c216 ?_
      refine g_iload_n O dX12_holds_294 rfl ?_
      refine g_aload_n O dX12_holds_295 rfl ?_
      refine gf_X12_lastPick O dX12_holds_296 fl_X12_66 c216 ?_
      refine g_bipush O dX12_holds_299 kb_12 ?_
      refine g_iload_n O dX12_holds_301 rfl ?_
      refine g_iadd O dX12_holds_302 ?_
      obtain ⟨c303, hw⟩ := hw
      refine g_iaload O dX12_holds_303 c303.1 c303.2 ?_
      obtain ⟨c304, hw⟩ := hw
      refine g_iastore O dX12_holds_304 c304.1 c304.2 ?_
      refine g_nmH (fun h304 e304 => ?_)
      have hw := hw h304 e304
      refine g_aload_n O dX12_holds_305 rfl ?_
      refine gf_X12_guardFrom O dX12_holds_306 fl_X12_69 c216 ?_
      refine g_iload_n O dX12_holds_309 rfl ?_
      refine g_aload_n O dX12_holds_310 rfl ?_
      refine gf_X12_guardFrom O dX12_holds_311 fl_X12_69 c216 ?_
      refine g_bipush O dX12_holds_314 kb_12 ?_
      refine g_iload_n O dX12_holds_316 rfl ?_
      refine g_iadd O dX12_holds_317 ?_
      obtain ⟨c318, hw⟩ := hw
      refine g_iaload O dX12_holds_318 c318.1 c318.2 ?_
      obtain ⟨c319, hw⟩ := hw
      refine g_iastore O dX12_holds_319 c319.1 c319.2 ?_
      refine g_nmH (fun h319 e319 => ?_)
      have hw := hw h319 e319
      refine g_aload_n O dX12_holds_320 rfl ?_
      refine gf_X12_guardTo O dX12_holds_321 fl_X12_72 c216 ?_
      refine g_iload_n O dX12_holds_324 rfl ?_
      refine g_aload_n O dX12_holds_325 rfl ?_
      refine gf_X12_guardTo O dX12_holds_326 fl_X12_72 c216 ?_
      refine g_bipush O dX12_holds_329 kb_12 ?_
      refine g_iload_n O dX12_holds_331 rfl ?_
      refine g_iadd O dX12_holds_332 ?_
      obtain ⟨c333, hw⟩ := hw
      refine g_iaload O dX12_holds_333 c333.1 c333.2 ?_
      obtain ⟨c334, hw⟩ := hw
      refine g_iastore O dX12_holds_334 c334.1 c334.2 ?_
      refine g_nmH (fun h334 e334 => ?_)
      have hw := hw h334 e334
      refine g_aload_n O dX12_holds_335 rfl ?_
      refine gf_X12_givenBits O dX12_holds_336 fl_X12_75 c216 ?_
      refine g_iload_n O dX12_holds_339 rfl ?_
      refine g_aload_n O dX12_holds_340 rfl ?_
      refine gf_X12_givenBits O dX12_holds_341 fl_X12_75 c216 ?_
      refine g_bipush O dX12_holds_344 kb_12 ?_
      refine g_iload_n O dX12_holds_346 rfl ?_
      refine g_iadd O dX12_holds_347 ?_
      obtain ⟨c348, hw⟩ := hw
      refine g_iaload O dX12_holds_348 c348.1 c348.2 ?_
      obtain ⟨c349, hw⟩ := hw
      refine g_iastore O dX12_holds_349 c349.1 c349.2 ?_
      refine g_nmH (fun h349 e349 => ?_)
      have hw := hw h349 e349
      refine g_aload_n O dX12_holds_350 rfl ?_
      refine gf_X12_isAside O dX12_holds_351 fl_X12_84 c216 ?_
      refine g_iload_n O dX12_holds_354 rfl ?_
      refine g_iconst O dX12_holds_355 kv_0 ?_
      obtain ⟨c356, hw⟩ := hw
      refine g_zastore O dX12_holds_356 c356.1 c356.2 ?_
      refine g_iinc (lc' := [some (vr a0), some (vi (x1 + (1 : Int32))), none]) O dX12_holds_357 rfl kv_1 rfl rfl ?_
      refine g_goto (tgt := 209) O dX12_holds_360 rfl ?_
      exact hB209 _ _ hw
theorem okX12_holds_j207 {E : Ev} {X : Cx} {S : Sh} {Z : Option Nat} {Q : Hp → Prop} {h : Hp} {a0 : Nat} (O : Ok E X yX12_holds cX12_holds 3 none 1 24 0 0 (qV S Z Q)) (hw : wX12_holds_j207 S h a0 Q) : G E X 0 0 S Z h 207 [some (vr a0), none, none] [] := by
  unfold wX12_holds_j207 at hw
  refine g_iconst O dX12_holds_207 kv_0 ?_
  refine g_istore_n (lc' := [some (vr a0), some (vi (0 : Int32)), none]) O dX12_holds_208 rfl (Nat.le_of_ble_eq_true rfl) rfl ?_
  obtain ⟨n209, hw⟩ := hw
  exact okX12_holds_209 O n209 _ _ hw
theorem okX12_holds_135 {E : Ev} {X : Cx} {S : Sh} {Z : Option Nat} {Q : Hp → Prop} {a0 : Nat} (O : Ok E X yX12_holds cX12_holds 3 none 1 24 0 0 (qV S Z Q)) : ∀ (n : Nat) (h : Hp) (x1 : Int32), wX12_holds_135 S a0 Q n h x1 → G E X 0 0 S Z h 135 [some (vr a0), some (vi x1), none] [] := by
  intro n
  induction n with
  | zero => intro h x1 hw; exact hw.elim
  | succ n hB135 =>
    intro h x1 hw
    have hw : wX12_holds_135b S a0 Q (wX12_holds_135 S a0 Q n) h x1 := hw
    unfold wX12_holds_135b at hw
    refine g_iload_n O dX12_holds_135 rfl ?_
    refine g_bipush O dX12_holds_136 kb_9 ?_
    refine g_icmp_ge (tgt := 207) O dX12_holds_138 rfl (fun q138 => ?_) (fun q138 => ?_)
    · have hw := hw.1 q138
      refine g_mask [true, false, false] rfl rfl ?_
      exact okX12_holds_j207 O hw
    · have hw := hw.2 q138
      refine g_aload_n O dX12_holds_141 rfl ?_
      obtain ⟨c142, hw⟩ := hw
      refine gf_X12_varName O dX12_holds_142 fl_X12_21 c142 ?_
      refine g_iload_n O dX12_holds_145 rfl ?_
      refine g_aload_n O dX12_holds_146 rfl ?_
      refine gf_X12_varName O dX12_holds_147 fl_X12_21 c142 ?_
      refine g_bipush O dX12_holds_150 kb_9 ?_
      refine g_iload_n O dX12_holds_152 rfl ?_
      refine g_iadd O dX12_holds_153 ?_
      obtain ⟨c154, hw⟩ := hw
      refine g_laload O dX12_holds_154 c154.1 c154.2 ?_
      obtain ⟨c155, hw⟩ := hw
      refine g_lastore O dX12_holds_155 c155.1 c155.2 ?_
      refine g_nmH (fun h155 e155 => ?_)
      have hw := hw h155 e155
      refine g_aload_n O dX12_holds_156 rfl ?_
      refine gf_X12_varLow O dX12_holds_157 fl_X12_45 c142 ?_
      refine g_iload_n O dX12_holds_160 rfl ?_
      refine g_aload_n O dX12_holds_161 rfl ?_
      refine gf_X12_varLow O dX12_holds_162 fl_X12_45 c142 ?_
      refine g_bipush O dX12_holds_165 kb_9 ?_
      refine g_iload_n O dX12_holds_167 rfl ?_
      refine g_iadd O dX12_holds_168 ?_
      obtain ⟨c169, hw⟩ := hw
      refine g_iaload O dX12_holds_169 c169.1 c169.2 ?_
      obtain ⟨c170, hw⟩ := hw
      refine g_iastore O dX12_holds_170 c170.1 c170.2 ?_
      refine g_nmH (fun h170 e170 => ?_)
      have hw := hw h170 e170
      refine g_aload_n O dX12_holds_171 rfl ?_
      refine gf_X12_varHigh O dX12_holds_172 fl_X12_48 c142 ?_
      refine g_iload_n O dX12_holds_175 rfl ?_
      refine g_aload_n O dX12_holds_176 rfl ?_
      refine gf_X12_varHigh O dX12_holds_177 fl_X12_48 c142 ?_
      refine g_bipush O dX12_holds_180 kb_9 ?_
      refine g_iload_n O dX12_holds_182 rfl ?_
      refine g_iadd O dX12_holds_183 ?_
      obtain ⟨c184, hw⟩ := hw
      refine g_iaload O dX12_holds_184 c184.1 c184.2 ?_
      obtain ⟨c185, hw⟩ := hw
      refine g_iastore O dX12_holds_185 c185.1 c185.2 ?_
      refine g_nmH (fun h185 e185 => ?_)
      have hw := hw h185 e185
      refine g_aload_n O dX12_holds_186 rfl ?_
      refine gf_X12_varAt O dX12_holds_187 fl_X12_51 c142 ?_
      refine g_iload_n O dX12_holds_190 rfl ?_
      refine g_aload_n O dX12_holds_191 rfl ?_
      refine gf_X12_varAt O dX12_holds_192 fl_X12_51 c142 ?_
      refine g_bipush O dX12_holds_195 kb_9 ?_
      refine g_iload_n O dX12_holds_197 rfl ?_
      refine g_iadd O dX12_holds_198 ?_
      obtain ⟨c199, hw⟩ := hw
      refine g_iaload O dX12_holds_199 c199.1 c199.2 ?_
      obtain ⟨c200, hw⟩ := hw
      refine g_iastore O dX12_holds_200 c200.1 c200.2 ?_
      refine g_iinc (lc' := [some (vr a0), some (vi (x1 + (1 : Int32))), none]) O dX12_holds_201 rfl kv_1 rfl rfl ?_
      refine g_goto (tgt := 135) O dX12_holds_204 rfl ?_
      exact hB135 _ _ hw
theorem okX12_holds_j133 {E : Ev} {X : Cx} {S : Sh} {Z : Option Nat} {Q : Hp → Prop} {h : Hp} {a0 : Nat} (O : Ok E X yX12_holds cX12_holds 3 none 1 24 0 0 (qV S Z Q)) (hw : wX12_holds_j133 S h a0 Q) : G E X 0 0 S Z h 133 [some (vr a0), none, none] [] := by
  unfold wX12_holds_j133 at hw
  refine g_iconst O dX12_holds_133 kv_0 ?_
  refine g_istore_n (lc' := [some (vr a0), some (vi (0 : Int32)), none]) O dX12_holds_134 rfl (Nat.le_of_ble_eq_true rfl) rfl ?_
  obtain ⟨n135, hw⟩ := hw
  exact okX12_holds_135 O n135 _ _ hw
theorem okX12_holds_j90 {E : Ev} {X : Cx} {S : Sh} {Z : Option Nat} {Q : Hp → Prop} {B10 : Hp → Int32 → Prop} {h : Hp} {a0 : Nat} {x1 : Int32} {x2 : Int32} {s0 : Nat} {s1 : Int32} {s2 : Int32} (O : Ok E X yX12_holds cX12_holds 3 none 1 24 0 0 (qV S Z Q)) (hB10 : ∀ (h : Hp) (x1 : Int32), B10 h x1 → G E X 0 0 S Z h 10 [some (vr a0), some (vi x1), none] []) (hw : wX12_holds_j90 S B10 h a0 x1 x2 s0 s1 s2 Q) : G E X 0 0 S Z h 90 [some (vr a0), some (vi x1), some (vi x2)] [vi s2, vi s1, vr s0] := by
  unfold wX12_holds_j90 at hw
  obtain ⟨c90, hw⟩ := hw
  refine g_iastore O dX12_holds_90 c90.1 c90.2 ?_
  refine g_nmH (fun h90 e90 => ?_)
  have hw := hw h90 e90
  refine g_aload_n O dX12_holds_91 rfl ?_
  obtain ⟨c92, hw⟩ := hw
  refine gf_X12_sizes O dX12_holds_92 fl_X12_36 c92 ?_
  refine g_iload_n O dX12_holds_95 rfl ?_
  refine g_aload_n O dX12_holds_96 rfl ?_
  refine gf_X12_sizes O dX12_holds_97 fl_X12_36 c92 ?_
  refine g_iload_n O dX12_holds_100 rfl ?_
  obtain ⟨c101, hw⟩ := hw
  refine g_iaload O dX12_holds_101 c101.1 c101.2 ?_
  obtain ⟨c102, hw⟩ := hw
  refine g_iastore O dX12_holds_102 c102.1 c102.2 ?_
  refine g_nmH (fun h102 e102 => ?_)
  have hw := hw h102 e102
  refine g_aload_n O dX12_holds_103 rfl ?_
  refine gf_X12_variantFrom O dX12_holds_104 fl_X12_39 c92 ?_
  refine g_iload_n O dX12_holds_107 rfl ?_
  refine g_aload_n O dX12_holds_108 rfl ?_
  refine gf_X12_variantFrom O dX12_holds_109 fl_X12_39 c92 ?_
  refine g_iload_n O dX12_holds_112 rfl ?_
  obtain ⟨c113, hw⟩ := hw
  refine g_iaload O dX12_holds_113 c113.1 c113.2 ?_
  obtain ⟨c114, hw⟩ := hw
  refine g_iastore O dX12_holds_114 c114.1 c114.2 ?_
  refine g_nmH (fun h114 e114 => ?_)
  have hw := hw h114 e114
  refine g_aload_n O dX12_holds_115 rfl ?_
  refine gf_X12_variantTo O dX12_holds_116 fl_X12_42 c92 ?_
  refine g_iload_n O dX12_holds_119 rfl ?_
  refine g_aload_n O dX12_holds_120 rfl ?_
  refine gf_X12_variantTo O dX12_holds_121 fl_X12_42 c92 ?_
  refine g_iload_n O dX12_holds_124 rfl ?_
  obtain ⟨c125, hw⟩ := hw
  refine g_iaload O dX12_holds_125 c125.1 c125.2 ?_
  obtain ⟨c126, hw⟩ := hw
  refine g_iastore O dX12_holds_126 c126.1 c126.2 ?_
  refine g_iinc (lc' := [some (vr a0), some (vi (x1 + (1 : Int32))), some (vi x2)]) O dX12_holds_127 rfl kv_1 rfl rfl ?_
  refine g_goto (tgt := 10) O dX12_holds_130 rfl ?_
  refine g_mask [true, true, false] rfl rfl ?_
  exact hB10 _ _ hw
theorem okX12_holds_j54 {E : Ev} {X : Cx} {S : Sh} {Z : Option Nat} {Q : Hp → Prop} {B10 : Hp → Int32 → Prop} {h : Hp} {a0 : Nat} {x1 : Int32} {x2 : Int32} {s0 : Nat} {s1 : Int32} {s2 : Int32} (O : Ok E X yX12_holds cX12_holds 3 none 1 24 0 0 (qV S Z Q)) (hB10 : ∀ (h : Hp) (x1 : Int32), B10 h x1 → G E X 0 0 S Z h 10 [some (vr a0), some (vi x1), none] []) (hw : wX12_holds_j54 S B10 h a0 x1 x2 s0 s1 s2 Q) : G E X 0 0 S Z h 54 [some (vr a0), some (vi x1), some (vi x2)] [vi s2, vi s1, vr s0] := by
  unfold wX12_holds_j54 at hw
  obtain ⟨c54, hw⟩ := hw
  refine g_iastore O dX12_holds_54 c54.1 c54.2 ?_
  refine g_nmH (fun h54 e54 => ?_)
  have hw := hw h54 e54
  refine g_aload_n O dX12_holds_55 rfl ?_
  obtain ⟨c56, hw⟩ := hw
  refine gf_X12_lawMany O dX12_holds_56 fl_X12_30 c56 ?_
  refine g_iload_n O dX12_holds_59 rfl ?_
  refine g_aload_n O dX12_holds_60 rfl ?_
  refine gf_X12_lawMany O dX12_holds_61 fl_X12_30 c56 ?_
  refine g_iload_n O dX12_holds_64 rfl ?_
  obtain ⟨c65, hw⟩ := hw
  refine g_iaload O dX12_holds_65 c65.1 c65.2 ?_
  obtain ⟨c66, hw⟩ := hw
  refine g_iastore O dX12_holds_66 c66.1 c66.2 ?_
  refine g_nmH (fun h66 e66 => ?_)
  have hw := hw h66 e66
  refine g_aload_n O dX12_holds_67 rfl ?_
  refine gf_X12_eventMany O dX12_holds_68 fl_X12_33 c56 ?_
  refine g_iload_n O dX12_holds_71 rfl ?_
  refine g_iload_n O dX12_holds_72 rfl ?_
  refine g_aload_n O dX12_holds_73 rfl ?_
  refine gf_X12_readMany O dX12_holds_74 fl_X12_252 c56 ?_
  refine g_icmp_ge (tgt := 89) O dX12_holds_77 rfl (fun q77 => ?_) (fun q77 => ?_)
  · have hw := hw.1 q77
    refine g_iconst O dX12_holds_89 kv_0 ?_
    exact okX12_holds_j90 O hB10 hw
  · have hw := hw.2 q77
    refine g_aload_n O dX12_holds_80 rfl ?_
    refine gf_X12_eventMany O dX12_holds_81 fl_X12_33 c56 ?_
    refine g_iload_n O dX12_holds_84 rfl ?_
    obtain ⟨c85, hw⟩ := hw
    refine g_iaload O dX12_holds_85 c85.1 c85.2 ?_
    refine g_goto (tgt := 90) O dX12_holds_86 rfl ?_
    exact okX12_holds_j90 O hB10 hw
theorem okX12_holds_10 {E : Ev} {X : Cx} {S : Sh} {Z : Option Nat} {Q : Hp → Prop} {a0 : Nat} (O : Ok E X yX12_holds cX12_holds 3 none 1 24 0 0 (qV S Z Q)) : ∀ (n : Nat) (h : Hp) (x1 : Int32), wX12_holds_10 S a0 Q n h x1 → G E X 0 0 S Z h 10 [some (vr a0), some (vi x1), none] [] := by
  intro n
  induction n with
  | zero => intro h x1 hw; exact hw.elim
  | succ n hB10 =>
    intro h x1 hw
    have hw : wX12_holds_10b S a0 Q (wX12_holds_10 S a0 Q n) h x1 := hw
    unfold wX12_holds_10b at hw
    refine g_iload_n O dX12_holds_10 rfl ?_
    refine g_iconst O dX12_holds_11 kv_3 ?_
    refine g_icmp_ge (tgt := 133) O dX12_holds_12 rfl (fun q12 => ?_) (fun q12 => ?_)
    · have hw := hw.1 q12
      refine g_mask [true, false, false] rfl rfl ?_
      exact okX12_holds_j133 O hw
    · have hw := hw.2 q12
      refine g_iconst O dX12_holds_15 kv_3 ?_
      refine g_iload_n O dX12_holds_16 rfl ?_
      refine g_iadd O dX12_holds_17 ?_
      refine g_istore_n (lc' := [some (vr a0), some (vi x1), some (vi ((3 : Int32) + x1))]) O dX12_holds_18 rfl (Nat.le_of_ble_eq_true rfl) rfl ?_
      refine g_aload_n O dX12_holds_19 rfl ?_
      obtain ⟨c20, hw⟩ := hw
      refine gf_X12_machineName O dX12_holds_20 fl_X12_17 c20 ?_
      refine g_iload_n O dX12_holds_23 rfl ?_
      refine g_aload_n O dX12_holds_24 rfl ?_
      refine gf_X12_machineName O dX12_holds_25 fl_X12_17 c20 ?_
      refine g_iload_n O dX12_holds_28 rfl ?_
      obtain ⟨c29, hw⟩ := hw
      refine g_laload O dX12_holds_29 c29.1 c29.2 ?_
      obtain ⟨c30, hw⟩ := hw
      refine g_lastore O dX12_holds_30 c30.1 c30.2 ?_
      refine g_nmH (fun h30 e30 => ?_)
      have hw := hw h30 e30
      refine g_aload_n O dX12_holds_31 rfl ?_
      refine gf_X12_varMany O dX12_holds_32 fl_X12_27 c20 ?_
      refine g_iload_n O dX12_holds_35 rfl ?_
      refine g_iload_n O dX12_holds_36 rfl ?_
      refine g_aload_n O dX12_holds_37 rfl ?_
      refine gf_X12_readMany O dX12_holds_38 fl_X12_252 c20 ?_
      refine g_icmp_ge (tgt := 53) O dX12_holds_41 rfl (fun q41 => ?_) (fun q41 => ?_)
      · have hw := hw.1 q41
        refine g_iconst O dX12_holds_53 kv_0 ?_
        exact okX12_holds_j54 O hB10 hw
      · have hw := hw.2 q41
        refine g_aload_n O dX12_holds_44 rfl ?_
        refine gf_X12_varMany O dX12_holds_45 fl_X12_27 c20 ?_
        refine g_iload_n O dX12_holds_48 rfl ?_
        obtain ⟨c49, hw⟩ := hw
        refine g_iaload O dX12_holds_49 c49.1 c49.2 ?_
        refine g_goto (tgt := 54) O dX12_holds_50 rfl ?_
        exact okX12_holds_j54 O hB10 hw
theorem okX12_holds {E : Ev} {S : Sh} {Z : Option Nat} {Q : Hp → Prop} {h : Hp} {a0 : Nat} (hw : wX12_holds S h a0 Q) : Ct E yX12_holds cX12_holds 3 none 1 24 0 0 S Z h [vr a0] (qV S Z Q) := by
  refine Ct.of (by decide) (lc := [some (vr a0), none, none]) (Nat.le_of_ble_eq_true rfl) rfl (fun X O => ?_)
  unfold wX12_holds at hw
  refine g_aload_n O dX12_holds_0 rfl ?_
  refine g_aload_n O dX12_holds_1 rfl ?_
  obtain ⟨c2, hw⟩ := hw
  refine gf_X12_readMany O dX12_holds_2 fl_X12_252 c2 ?_
  refine pf_X12_machineMany O dX12_holds_5 fl_X12_347 c2 ?_
  refine g_iconst O dX12_holds_8 kv_0 ?_
  refine g_istore_n (lc' := [some (vr a0), some (vi (0 : Int32)), none]) O dX12_holds_9 rfl (Nat.le_of_ble_eq_true rfl) rfl ?_
  obtain ⟨n10, hw⟩ := hw
  exact okX12_holds_10 O n10 _ _ hw
theorem dX12_init_0 : decode cX12_init 0 = .ok (.aload_n 0, 1) := by decide +kernel
theorem dX12_init_1 : decode cX12_init 1 = .ok (.invokespecial 1, 3) := by decide +kernel
theorem dX12_init_4 : decode cX12_init 4 = .ok (.aload_n 0, 1) := by decide +kernel
theorem dX12_init_5 : decode cX12_init 5 = .ok (.iconst (-1), 1) := by decide +kernel
theorem dX12_init_6 : decode cX12_init 6 = .ok (.putfield 9, 3) := by decide +kernel
theorem dX12_init_9 : decode cX12_init 9 = .ok (.aload_n 0, 1) := by decide +kernel
theorem dX12_init_10 : decode cX12_init 10 = .ok (.sipush 600, 3) := by decide +kernel
theorem dX12_init_13 : decode cX12_init 13 = .ok (.newarray .int, 2) := by decide +kernel
theorem dX12_init_15 : decode cX12_init 15 = .ok (.putfield 13, 3) := by decide +kernel
theorem dX12_init_18 : decode cX12_init 18 = .ok (.aload_n 0, 1) := by decide +kernel
theorem dX12_init_19 : decode cX12_init 19 = .ok (.bipush 6, 2) := by decide +kernel
theorem dX12_init_21 : decode cX12_init 21 = .ok (.newarray .long, 2) := by decide +kernel
theorem dX12_init_23 : decode cX12_init 23 = .ok (.putfield 17, 3) := by decide +kernel
theorem dX12_init_26 : decode cX12_init 26 = .ok (.aload_n 0, 1) := by decide +kernel
theorem dX12_init_27 : decode cX12_init 27 = .ok (.bipush 18, 2) := by decide +kernel
theorem dX12_init_29 : decode cX12_init 29 = .ok (.newarray .long, 2) := by decide +kernel
theorem dX12_init_31 : decode cX12_init 31 = .ok (.putfield 21, 3) := by decide +kernel
theorem dX12_init_34 : decode cX12_init 34 = .ok (.aload_n 0, 1) := by decide +kernel
theorem dX12_init_35 : decode cX12_init 35 = .ok (.bipush 24, 2) := by decide +kernel
theorem dX12_init_37 : decode cX12_init 37 = .ok (.newarray .long, 2) := by decide +kernel
theorem dX12_init_39 : decode cX12_init 39 = .ok (.putfield 24, 3) := by decide +kernel
theorem dX12_init_42 : decode cX12_init 42 = .ok (.aload_n 0, 1) := by decide +kernel
theorem dX12_init_43 : decode cX12_init 43 = .ok (.bipush 6, 2) := by decide +kernel
theorem dX12_init_45 : decode cX12_init 45 = .ok (.newarray .int, 2) := by decide +kernel
theorem dX12_init_47 : decode cX12_init 47 = .ok (.putfield 27, 3) := by decide +kernel
theorem dX12_init_50 : decode cX12_init 50 = .ok (.aload_n 0, 1) := by decide +kernel
theorem dX12_init_51 : decode cX12_init 51 = .ok (.bipush 6, 2) := by decide +kernel
theorem dX12_init_53 : decode cX12_init 53 = .ok (.newarray .int, 2) := by decide +kernel
theorem dX12_init_55 : decode cX12_init 55 = .ok (.putfield 30, 3) := by decide +kernel
theorem dX12_init_58 : decode cX12_init 58 = .ok (.aload_n 0, 1) := by decide +kernel
theorem dX12_init_59 : decode cX12_init 59 = .ok (.bipush 6, 2) := by decide +kernel
theorem dX12_init_61 : decode cX12_init 61 = .ok (.newarray .int, 2) := by decide +kernel
theorem dX12_init_63 : decode cX12_init 63 = .ok (.putfield 33, 3) := by decide +kernel
theorem dX12_init_66 : decode cX12_init 66 = .ok (.aload_n 0, 1) := by decide +kernel
theorem dX12_init_67 : decode cX12_init 67 = .ok (.bipush 6, 2) := by decide +kernel
theorem dX12_init_69 : decode cX12_init 69 = .ok (.newarray .int, 2) := by decide +kernel
theorem dX12_init_71 : decode cX12_init 71 = .ok (.putfield 36, 3) := by decide +kernel
theorem dX12_init_74 : decode cX12_init 74 = .ok (.aload_n 0, 1) := by decide +kernel
theorem dX12_init_75 : decode cX12_init 75 = .ok (.bipush 6, 2) := by decide +kernel
theorem dX12_init_77 : decode cX12_init 77 = .ok (.newarray .int, 2) := by decide +kernel
theorem dX12_init_79 : decode cX12_init 79 = .ok (.putfield 39, 3) := by decide +kernel
theorem dX12_init_82 : decode cX12_init 82 = .ok (.aload_n 0, 1) := by decide +kernel
theorem dX12_init_83 : decode cX12_init 83 = .ok (.bipush 6, 2) := by decide +kernel
theorem dX12_init_85 : decode cX12_init 85 = .ok (.newarray .int, 2) := by decide +kernel
theorem dX12_init_87 : decode cX12_init 87 = .ok (.putfield 42, 3) := by decide +kernel
theorem dX12_init_90 : decode cX12_init 90 = .ok (.aload_n 0, 1) := by decide +kernel
theorem dX12_init_91 : decode cX12_init 91 = .ok (.bipush 18, 2) := by decide +kernel
theorem dX12_init_93 : decode cX12_init 93 = .ok (.newarray .int, 2) := by decide +kernel
theorem dX12_init_95 : decode cX12_init 95 = .ok (.putfield 45, 3) := by decide +kernel
theorem dX12_init_98 : decode cX12_init 98 = .ok (.aload_n 0, 1) := by decide +kernel
theorem dX12_init_99 : decode cX12_init 99 = .ok (.bipush 18, 2) := by decide +kernel
theorem dX12_init_101 : decode cX12_init 101 = .ok (.newarray .int, 2) := by decide +kernel
theorem dX12_init_103 : decode cX12_init 103 = .ok (.putfield 48, 3) := by decide +kernel
theorem dX12_init_106 : decode cX12_init 106 = .ok (.aload_n 0, 1) := by decide +kernel
theorem dX12_init_107 : decode cX12_init 107 = .ok (.bipush 18, 2) := by decide +kernel
theorem dX12_init_109 : decode cX12_init 109 = .ok (.newarray .int, 2) := by decide +kernel
theorem dX12_init_111 : decode cX12_init 111 = .ok (.putfield 51, 3) := by decide +kernel
theorem dX12_init_114 : decode cX12_init 114 = .ok (.aload_n 0, 1) := by decide +kernel
theorem dX12_init_115 : decode cX12_init 115 = .ok (.bipush 24, 2) := by decide +kernel
theorem dX12_init_117 : decode cX12_init 117 = .ok (.newarray .int, 2) := by decide +kernel
theorem dX12_init_119 : decode cX12_init 119 = .ok (.putfield 54, 3) := by decide +kernel
theorem dX12_init_122 : decode cX12_init 122 = .ok (.aload_n 0, 1) := by decide +kernel
theorem dX12_init_123 : decode cX12_init 123 = .ok (.bipush 24, 2) := by decide +kernel
theorem dX12_init_125 : decode cX12_init 125 = .ok (.newarray .int, 2) := by decide +kernel
theorem dX12_init_127 : decode cX12_init 127 = .ok (.putfield 57, 3) := by decide +kernel
theorem dX12_init_130 : decode cX12_init 130 = .ok (.aload_n 0, 1) := by decide +kernel
theorem dX12_init_131 : decode cX12_init 131 = .ok (.bipush 24, 2) := by decide +kernel
theorem dX12_init_133 : decode cX12_init 133 = .ok (.newarray .int, 2) := by decide +kernel
theorem dX12_init_135 : decode cX12_init 135 = .ok (.putfield 60, 3) := by decide +kernel
theorem dX12_init_138 : decode cX12_init 138 = .ok (.aload_n 0, 1) := by decide +kernel
theorem dX12_init_139 : decode cX12_init 139 = .ok (.bipush 24, 2) := by decide +kernel
theorem dX12_init_141 : decode cX12_init 141 = .ok (.newarray .int, 2) := by decide +kernel
theorem dX12_init_143 : decode cX12_init 143 = .ok (.putfield 63, 3) := by decide +kernel
theorem dX12_init_146 : decode cX12_init 146 = .ok (.aload_n 0, 1) := by decide +kernel
theorem dX12_init_147 : decode cX12_init 147 = .ok (.bipush 24, 2) := by decide +kernel
theorem dX12_init_149 : decode cX12_init 149 = .ok (.newarray .int, 2) := by decide +kernel
theorem dX12_init_151 : decode cX12_init 151 = .ok (.putfield 66, 3) := by decide +kernel
theorem dX12_init_154 : decode cX12_init 154 = .ok (.aload_n 0, 1) := by decide +kernel
theorem dX12_init_155 : decode cX12_init 155 = .ok (.bipush 24, 2) := by decide +kernel
theorem dX12_init_157 : decode cX12_init 157 = .ok (.newarray .int, 2) := by decide +kernel
theorem dX12_init_159 : decode cX12_init 159 = .ok (.putfield 69, 3) := by decide +kernel
theorem dX12_init_162 : decode cX12_init 162 = .ok (.aload_n 0, 1) := by decide +kernel
theorem dX12_init_163 : decode cX12_init 163 = .ok (.bipush 24, 2) := by decide +kernel
theorem dX12_init_165 : decode cX12_init 165 = .ok (.newarray .int, 2) := by decide +kernel
theorem dX12_init_167 : decode cX12_init 167 = .ok (.putfield 72, 3) := by decide +kernel
theorem dX12_init_170 : decode cX12_init 170 = .ok (.aload_n 0, 1) := by decide +kernel
theorem dX12_init_171 : decode cX12_init 171 = .ok (.bipush 24, 2) := by decide +kernel
theorem dX12_init_173 : decode cX12_init 173 = .ok (.newarray .int, 2) := by decide +kernel
theorem dX12_init_175 : decode cX12_init 175 = .ok (.putfield 75, 3) := by decide +kernel
theorem dX12_init_178 : decode cX12_init 178 = .ok (.aload_n 0, 1) := by decide +kernel
theorem dX12_init_179 : decode cX12_init 179 = .ok (.bipush 72, 2) := by decide +kernel
theorem dX12_init_181 : decode cX12_init 181 = .ok (.newarray .int, 2) := by decide +kernel
theorem dX12_init_183 : decode cX12_init 183 = .ok (.putfield 78, 3) := by decide +kernel
theorem dX12_init_186 : decode cX12_init 186 = .ok (.aload_n 0, 1) := by decide +kernel
theorem dX12_init_187 : decode cX12_init 187 = .ok (.bipush 72, 2) := by decide +kernel
theorem dX12_init_189 : decode cX12_init 189 = .ok (.newarray .int, 2) := by decide +kernel
theorem dX12_init_191 : decode cX12_init 191 = .ok (.putfield 81, 3) := by decide +kernel
theorem dX12_init_194 : decode cX12_init 194 = .ok (.aload_n 0, 1) := by decide +kernel
theorem dX12_init_195 : decode cX12_init 195 = .ok (.bipush 24, 2) := by decide +kernel
theorem dX12_init_197 : decode cX12_init 197 = .ok (.newarray .boolean, 2) := by decide +kernel
theorem dX12_init_199 : decode cX12_init 199 = .ok (.putfield 84, 3) := by decide +kernel
theorem dX12_init_202 : decode cX12_init 202 = .ok (.aload_n 0, 1) := by decide +kernel
theorem dX12_init_203 : decode cX12_init 203 = .ok (.sipush 1400, 3) := by decide +kernel
theorem dX12_init_206 : decode cX12_init 206 = .ok (.newarray .int, 2) := by decide +kernel
theorem dX12_init_208 : decode cX12_init 208 = .ok (.putfield 88, 3) := by decide +kernel
theorem dX12_init_211 : decode cX12_init 211 = .ok (.aload_n 0, 1) := by decide +kernel
theorem dX12_init_212 : decode cX12_init 212 = .ok (.sipush 1400, 3) := by decide +kernel
theorem dX12_init_215 : decode cX12_init 215 = .ok (.newarray .int, 2) := by decide +kernel
theorem dX12_init_217 : decode cX12_init 217 = .ok (.putfield 91, 3) := by decide +kernel
theorem dX12_init_220 : decode cX12_init 220 = .ok (.aload_n 0, 1) := by decide +kernel
theorem dX12_init_221 : decode cX12_init 221 = .ok (.sipush 700, 3) := by decide +kernel
theorem dX12_init_224 : decode cX12_init 224 = .ok (.newarray .int, 2) := by decide +kernel
theorem dX12_init_226 : decode cX12_init 226 = .ok (.putfield 94, 3) := by decide +kernel
theorem dX12_init_229 : decode cX12_init 229 = .ok (.aload_n 0, 1) := by decide +kernel
theorem dX12_init_230 : decode cX12_init 230 = .ok (.sipush 300, 3) := by decide +kernel
theorem dX12_init_233 : decode cX12_init 233 = .ok (.newarray .boolean, 2) := by decide +kernel
theorem dX12_init_235 : decode cX12_init 235 = .ok (.putfield 97, 3) := by decide +kernel
theorem dX12_init_238 : decode cX12_init 238 = .ok (.aload_n 0, 1) := by decide +kernel
theorem dX12_init_239 : decode cX12_init 239 = .ok (.sipush 20000, 3) := by decide +kernel
theorem dX12_init_242 : decode cX12_init 242 = .ok (.newarray .boolean, 2) := by decide +kernel
theorem dX12_init_244 : decode cX12_init 244 = .ok (.putfield 100, 3) := by decide +kernel
theorem dX12_init_247 : decode cX12_init 247 = .ok (.aload_n 0, 1) := by decide +kernel
theorem dX12_init_248 : decode cX12_init 248 = .ok (.sipush 200, 3) := by decide +kernel
theorem dX12_init_251 : decode cX12_init 251 = .ok (.newarray .int, 2) := by decide +kernel
theorem dX12_init_253 : decode cX12_init 253 = .ok (.putfield 103, 3) := by decide +kernel
theorem dX12_init_256 : decode cX12_init 256 = .ok (.aload_n 0, 1) := by decide +kernel
theorem dX12_init_257 : decode cX12_init 257 = .ok (.iconst (-1), 1) := by decide +kernel
theorem dX12_init_258 : decode cX12_init 258 = .ok (.putfield 106, 3) := by decide +kernel
theorem dX12_init_261 : decode cX12_init 261 = .ok (.aload_n 0, 1) := by decide +kernel
theorem dX12_init_262 : decode cX12_init 262 = .ok (.bipush 100, 2) := by decide +kernel
theorem dX12_init_264 : decode cX12_init 264 = .ok (.newarray .boolean, 2) := by decide +kernel
theorem dX12_init_266 : decode cX12_init 266 = .ok (.putfield 109, 3) := by decide +kernel
theorem dX12_init_269 : decode cX12_init 269 = .ok (.aload_n 0, 1) := by decide +kernel
theorem dX12_init_270 : decode cX12_init 270 = .ok (.bipush 100, 2) := by decide +kernel
theorem dX12_init_272 : decode cX12_init 272 = .ok (.newarray .boolean, 2) := by decide +kernel
theorem dX12_init_274 : decode cX12_init 274 = .ok (.putfield 112, 3) := by decide +kernel
theorem dX12_init_277 : decode cX12_init 277 = .ok (.aload_n 0, 1) := by decide +kernel
theorem dX12_init_278 : decode cX12_init 278 = .ok (.bipush 100, 2) := by decide +kernel
theorem dX12_init_280 : decode cX12_init 280 = .ok (.newarray .int, 2) := by decide +kernel
theorem dX12_init_282 : decode cX12_init 282 = .ok (.putfield 115, 3) := by decide +kernel
theorem dX12_init_285 : decode cX12_init 285 = .ok (.aload_n 0, 1) := by decide +kernel
theorem dX12_init_286 : decode cX12_init 286 = .ok (.bipush 100, 2) := by decide +kernel
theorem dX12_init_288 : decode cX12_init 288 = .ok (.newarray .int, 2) := by decide +kernel
theorem dX12_init_290 : decode cX12_init 290 = .ok (.putfield 118, 3) := by decide +kernel
theorem dX12_init_293 : decode cX12_init 293 = .ok (.return_, 1) := by decide +kernel
theorem okX12_init {E : Ev} {Q : Sh → Nat → Hp → Prop} {S : Sh} {z : Nat} {h : Hp} {a0 : Nat} (hw : wX12_init S z h a0 Q) : Ct E yX12_init cX12_init 1 none 1 24 34 25498 S (some z) h [vr a0] (qA Q) := by
  refine Ct.of (by decide) (lc := [some (vr a0)]) (Nat.le_of_ble_eq_true rfl) rfl (fun X O => ?_)
  unfold wX12_init at hw
  refine g_aload_n O dX12_init_0 rfl ?_
  obtain ⟨c1, hw⟩ := hw
  refine g_objInit O dX12_init_1 ml_X12_1 c1 rfl rfl (Nat.le_of_ble_eq_true rfl) ⟨by decide, by decide⟩ ?_
  refine g_aload_n O dX12_init_4 rfl ?_
  refine g_iconst O dX12_init_5 kv_m1 ?_
  obtain ⟨c6, hw⟩ := hw
  refine pf_X12_wrongAt O dX12_init_6 fl_X12_9 c6 ?_
  refine g_nmH (fun h6 e6 => ?_)
  have hw := hw h6 e6
  refine g_aload_n O dX12_init_9 rfl ?_
  refine g_sipush O dX12_init_10 ks_600 ?_
  obtain ⟨c13a, hw⟩ := hw
  obtain ⟨c13b, c13c, hw⟩ := hw
  refine g_newarray (atype := .int) (t := 0) (N := 600) O rfl (fun I J R j h1 h2 h3 => by simp [aval, h1, h2, newarray.typeOf, defaultValue]) (fun U cA q => q) dX12_init_13 ac_int (by decide) (by decide) (by decide) c13a c13b c13c ?_
  obtain ⟨c15, hw⟩ := hw
  refine pf_X12_tape O rfl rfl dX12_init_15 fl_X12_13 c15 ?_
  refine g_nmH (fun h15 e15 => ?_)
  have hw := hw h15 e15
  refine g_aload_n O dX12_init_18 rfl ?_
  refine g_bipush O dX12_init_19 kb_6 ?_
  obtain ⟨c21a, hw⟩ := hw
  obtain ⟨c21b, c21c, hw⟩ := hw
  refine g_newarray (atype := .long) (t := 3) (N := 6) O rfl (fun I J R j h1 h2 h3 => by simp [aval, h1, h2, newarray.typeOf, defaultValue]) (fun U cA q => q) dX12_init_21 ac_long (by decide) (by decide) (by decide) c21a c21b c21c ?_
  obtain ⟨c23, hw⟩ := hw
  refine pf_X12_machineName O rfl rfl dX12_init_23 fl_X12_17 c23 ?_
  refine g_nmH (fun h23 e23 => ?_)
  have hw := hw h23 e23
  refine g_aload_n O dX12_init_26 rfl ?_
  refine g_bipush O dX12_init_27 kb_18 ?_
  obtain ⟨c29a, hw⟩ := hw
  obtain ⟨c29b, c29c, hw⟩ := hw
  refine g_newarray (atype := .long) (t := 3) (N := 18) O rfl (fun I J R j h1 h2 h3 => by simp [aval, h1, h2, newarray.typeOf, defaultValue]) (fun U cA q => q) dX12_init_29 ac_long (by decide) (by decide) (by decide) c29a c29b c29c ?_
  obtain ⟨c31, hw⟩ := hw
  refine pf_X12_varName O rfl rfl dX12_init_31 fl_X12_21 c31 ?_
  refine g_nmH (fun h31 e31 => ?_)
  have hw := hw h31 e31
  refine g_aload_n O dX12_init_34 rfl ?_
  refine g_bipush O dX12_init_35 kb_24 ?_
  obtain ⟨c37a, hw⟩ := hw
  obtain ⟨c37b, c37c, hw⟩ := hw
  refine g_newarray (atype := .long) (t := 3) (N := 24) O rfl (fun I J R j h1 h2 h3 => by simp [aval, h1, h2, newarray.typeOf, defaultValue]) (fun U cA q => q) dX12_init_37 ac_long (by decide) (by decide) (by decide) c37a c37b c37c ?_
  obtain ⟨c39, hw⟩ := hw
  refine pf_X12_eventName O rfl rfl dX12_init_39 fl_X12_24 c39 ?_
  refine g_nmH (fun h39 e39 => ?_)
  have hw := hw h39 e39
  refine g_aload_n O dX12_init_42 rfl ?_
  refine g_bipush O dX12_init_43 kb_6 ?_
  obtain ⟨c45a, hw⟩ := hw
  obtain ⟨c45b, c45c, hw⟩ := hw
  refine g_newarray (atype := .int) (t := 0) (N := 6) O rfl (fun I J R j h1 h2 h3 => by simp [aval, h1, h2, newarray.typeOf, defaultValue]) (fun U cA q => q) dX12_init_45 ac_int (by decide) (by decide) (by decide) c45a c45b c45c ?_
  obtain ⟨c47, hw⟩ := hw
  refine pf_X12_varMany O rfl rfl dX12_init_47 fl_X12_27 c47 ?_
  refine g_nmH (fun h47 e47 => ?_)
  have hw := hw h47 e47
  refine g_aload_n O dX12_init_50 rfl ?_
  refine g_bipush O dX12_init_51 kb_6 ?_
  obtain ⟨c53a, hw⟩ := hw
  obtain ⟨c53b, c53c, hw⟩ := hw
  refine g_newarray (atype := .int) (t := 0) (N := 6) O rfl (fun I J R j h1 h2 h3 => by simp [aval, h1, h2, newarray.typeOf, defaultValue]) (fun U cA q => q) dX12_init_53 ac_int (by decide) (by decide) (by decide) c53a c53b c53c ?_
  obtain ⟨c55, hw⟩ := hw
  refine pf_X12_lawMany O rfl rfl dX12_init_55 fl_X12_30 c55 ?_
  refine g_nmH (fun h55 e55 => ?_)
  have hw := hw h55 e55
  refine g_aload_n O dX12_init_58 rfl ?_
  refine g_bipush O dX12_init_59 kb_6 ?_
  obtain ⟨c61a, hw⟩ := hw
  obtain ⟨c61b, c61c, hw⟩ := hw
  refine g_newarray (atype := .int) (t := 0) (N := 6) O rfl (fun I J R j h1 h2 h3 => by simp [aval, h1, h2, newarray.typeOf, defaultValue]) (fun U cA q => q) dX12_init_61 ac_int (by decide) (by decide) (by decide) c61a c61b c61c ?_
  obtain ⟨c63, hw⟩ := hw
  refine pf_X12_eventMany O rfl rfl dX12_init_63 fl_X12_33 c63 ?_
  refine g_nmH (fun h63 e63 => ?_)
  have hw := hw h63 e63
  refine g_aload_n O dX12_init_66 rfl ?_
  refine g_bipush O dX12_init_67 kb_6 ?_
  obtain ⟨c69a, hw⟩ := hw
  obtain ⟨c69b, c69c, hw⟩ := hw
  refine g_newarray (atype := .int) (t := 0) (N := 6) O rfl (fun I J R j h1 h2 h3 => by simp [aval, h1, h2, newarray.typeOf, defaultValue]) (fun U cA q => q) dX12_init_69 ac_int (by decide) (by decide) (by decide) c69a c69b c69c ?_
  obtain ⟨c71, hw⟩ := hw
  refine pf_X12_sizes O rfl rfl dX12_init_71 fl_X12_36 c71 ?_
  refine g_nmH (fun h71 e71 => ?_)
  have hw := hw h71 e71
  refine g_aload_n O dX12_init_74 rfl ?_
  refine g_bipush O dX12_init_75 kb_6 ?_
  obtain ⟨c77a, hw⟩ := hw
  obtain ⟨c77b, c77c, hw⟩ := hw
  refine g_newarray (atype := .int) (t := 0) (N := 6) O rfl (fun I J R j h1 h2 h3 => by simp [aval, h1, h2, newarray.typeOf, defaultValue]) (fun U cA q => q) dX12_init_77 ac_int (by decide) (by decide) (by decide) c77a c77b c77c ?_
  obtain ⟨c79, hw⟩ := hw
  refine pf_X12_variantFrom O rfl rfl dX12_init_79 fl_X12_39 c79 ?_
  refine g_nmH (fun h79 e79 => ?_)
  have hw := hw h79 e79
  refine g_aload_n O dX12_init_82 rfl ?_
  refine g_bipush O dX12_init_83 kb_6 ?_
  obtain ⟨c85a, hw⟩ := hw
  obtain ⟨c85b, c85c, hw⟩ := hw
  refine g_newarray (atype := .int) (t := 0) (N := 6) O rfl (fun I J R j h1 h2 h3 => by simp [aval, h1, h2, newarray.typeOf, defaultValue]) (fun U cA q => q) dX12_init_85 ac_int (by decide) (by decide) (by decide) c85a c85b c85c ?_
  obtain ⟨c87, hw⟩ := hw
  refine pf_X12_variantTo O rfl rfl dX12_init_87 fl_X12_42 c87 ?_
  refine g_nmH (fun h87 e87 => ?_)
  have hw := hw h87 e87
  refine g_aload_n O dX12_init_90 rfl ?_
  refine g_bipush O dX12_init_91 kb_18 ?_
  obtain ⟨c93a, hw⟩ := hw
  obtain ⟨c93b, c93c, hw⟩ := hw
  refine g_newarray (atype := .int) (t := 0) (N := 18) O rfl (fun I J R j h1 h2 h3 => by simp [aval, h1, h2, newarray.typeOf, defaultValue]) (fun U cA q => q) dX12_init_93 ac_int (by decide) (by decide) (by decide) c93a c93b c93c ?_
  obtain ⟨c95, hw⟩ := hw
  refine pf_X12_varLow O rfl rfl dX12_init_95 fl_X12_45 c95 ?_
  refine g_nmH (fun h95 e95 => ?_)
  have hw := hw h95 e95
  refine g_aload_n O dX12_init_98 rfl ?_
  refine g_bipush O dX12_init_99 kb_18 ?_
  obtain ⟨c101a, hw⟩ := hw
  obtain ⟨c101b, c101c, hw⟩ := hw
  refine g_newarray (atype := .int) (t := 0) (N := 18) O rfl (fun I J R j h1 h2 h3 => by simp [aval, h1, h2, newarray.typeOf, defaultValue]) (fun U cA q => q) dX12_init_101 ac_int (by decide) (by decide) (by decide) c101a c101b c101c ?_
  obtain ⟨c103, hw⟩ := hw
  refine pf_X12_varHigh O rfl rfl dX12_init_103 fl_X12_48 c103 ?_
  refine g_nmH (fun h103 e103 => ?_)
  have hw := hw h103 e103
  refine g_aload_n O dX12_init_106 rfl ?_
  refine g_bipush O dX12_init_107 kb_18 ?_
  obtain ⟨c109a, hw⟩ := hw
  obtain ⟨c109b, c109c, hw⟩ := hw
  refine g_newarray (atype := .int) (t := 0) (N := 18) O rfl (fun I J R j h1 h2 h3 => by simp [aval, h1, h2, newarray.typeOf, defaultValue]) (fun U cA q => q) dX12_init_109 ac_int (by decide) (by decide) (by decide) c109a c109b c109c ?_
  obtain ⟨c111, hw⟩ := hw
  refine pf_X12_varAt O rfl rfl dX12_init_111 fl_X12_51 c111 ?_
  refine g_nmH (fun h111 e111 => ?_)
  have hw := hw h111 e111
  refine g_aload_n O dX12_init_114 rfl ?_
  refine g_bipush O dX12_init_115 kb_24 ?_
  obtain ⟨c117a, hw⟩ := hw
  obtain ⟨c117b, c117c, hw⟩ := hw
  refine g_newarray (atype := .int) (t := 0) (N := 24) O rfl (fun I J R j h1 h2 h3 => by simp [aval, h1, h2, newarray.typeOf, defaultValue]) (fun U cA q => q) dX12_init_117 ac_int (by decide) (by decide) (by decide) c117a c117b c117c ?_
  obtain ⟨c119, hw⟩ := hw
  refine pf_X12_lawFrom O rfl rfl dX12_init_119 fl_X12_54 c119 ?_
  refine g_nmH (fun h119 e119 => ?_)
  have hw := hw h119 e119
  refine g_aload_n O dX12_init_122 rfl ?_
  refine g_bipush O dX12_init_123 kb_24 ?_
  obtain ⟨c125a, hw⟩ := hw
  obtain ⟨c125b, c125c, hw⟩ := hw
  refine g_newarray (atype := .int) (t := 0) (N := 24) O rfl (fun I J R j h1 h2 h3 => by simp [aval, h1, h2, newarray.typeOf, defaultValue]) (fun U cA q => q) dX12_init_125 ac_int (by decide) (by decide) (by decide) c125a c125b c125c ?_
  obtain ⟨c127, hw⟩ := hw
  refine pf_X12_lawTo O rfl rfl dX12_init_127 fl_X12_57 c127 ?_
  refine g_nmH (fun h127 e127 => ?_)
  have hw := hw h127 e127
  refine g_aload_n O dX12_init_130 rfl ?_
  refine g_bipush O dX12_init_131 kb_24 ?_
  obtain ⟨c133a, hw⟩ := hw
  obtain ⟨c133b, c133c, hw⟩ := hw
  refine g_newarray (atype := .int) (t := 0) (N := 24) O rfl (fun I J R j h1 h2 h3 => by simp [aval, h1, h2, newarray.typeOf, defaultValue]) (fun U cA q => q) dX12_init_133 ac_int (by decide) (by decide) (by decide) c133a c133b c133c ?_
  obtain ⟨c135, hw⟩ := hw
  refine pf_X12_eventOf O rfl rfl dX12_init_135 fl_X12_60 c135 ?_
  refine g_nmH (fun h135 e135 => ?_)
  have hw := hw h135 e135
  refine g_aload_n O dX12_init_138 rfl ?_
  refine g_bipush O dX12_init_139 kb_24 ?_
  obtain ⟨c141a, hw⟩ := hw
  obtain ⟨c141b, c141c, hw⟩ := hw
  refine g_newarray (atype := .int) (t := 0) (N := 24) O rfl (fun I J R j h1 h2 h3 => by simp [aval, h1, h2, newarray.typeOf, defaultValue]) (fun U cA q => q) dX12_init_141 ac_int (by decide) (by decide) (by decide) c141a c141b c141c ?_
  obtain ⟨c143, hw⟩ := hw
  refine pf_X12_firstPick O rfl rfl dX12_init_143 fl_X12_63 c143 ?_
  refine g_nmH (fun h143 e143 => ?_)
  have hw := hw h143 e143
  refine g_aload_n O dX12_init_146 rfl ?_
  refine g_bipush O dX12_init_147 kb_24 ?_
  obtain ⟨c149a, hw⟩ := hw
  obtain ⟨c149b, c149c, hw⟩ := hw
  refine g_newarray (atype := .int) (t := 0) (N := 24) O rfl (fun I J R j h1 h2 h3 => by simp [aval, h1, h2, newarray.typeOf, defaultValue]) (fun U cA q => q) dX12_init_149 ac_int (by decide) (by decide) (by decide) c149a c149b c149c ?_
  obtain ⟨c151, hw⟩ := hw
  refine pf_X12_lastPick O rfl rfl dX12_init_151 fl_X12_66 c151 ?_
  refine g_nmH (fun h151 e151 => ?_)
  have hw := hw h151 e151
  refine g_aload_n O dX12_init_154 rfl ?_
  refine g_bipush O dX12_init_155 kb_24 ?_
  obtain ⟨c157a, hw⟩ := hw
  obtain ⟨c157b, c157c, hw⟩ := hw
  refine g_newarray (atype := .int) (t := 0) (N := 24) O rfl (fun I J R j h1 h2 h3 => by simp [aval, h1, h2, newarray.typeOf, defaultValue]) (fun U cA q => q) dX12_init_157 ac_int (by decide) (by decide) (by decide) c157a c157b c157c ?_
  obtain ⟨c159, hw⟩ := hw
  refine pf_X12_guardFrom O rfl rfl dX12_init_159 fl_X12_69 c159 ?_
  refine g_nmH (fun h159 e159 => ?_)
  have hw := hw h159 e159
  refine g_aload_n O dX12_init_162 rfl ?_
  refine g_bipush O dX12_init_163 kb_24 ?_
  obtain ⟨c165a, hw⟩ := hw
  obtain ⟨c165b, c165c, hw⟩ := hw
  refine g_newarray (atype := .int) (t := 0) (N := 24) O rfl (fun I J R j h1 h2 h3 => by simp [aval, h1, h2, newarray.typeOf, defaultValue]) (fun U cA q => q) dX12_init_165 ac_int (by decide) (by decide) (by decide) c165a c165b c165c ?_
  obtain ⟨c167, hw⟩ := hw
  refine pf_X12_guardTo O rfl rfl dX12_init_167 fl_X12_72 c167 ?_
  refine g_nmH (fun h167 e167 => ?_)
  have hw := hw h167 e167
  refine g_aload_n O dX12_init_170 rfl ?_
  refine g_bipush O dX12_init_171 kb_24 ?_
  obtain ⟨c173a, hw⟩ := hw
  obtain ⟨c173b, c173c, hw⟩ := hw
  refine g_newarray (atype := .int) (t := 0) (N := 24) O rfl (fun I J R j h1 h2 h3 => by simp [aval, h1, h2, newarray.typeOf, defaultValue]) (fun U cA q => q) dX12_init_173 ac_int (by decide) (by decide) (by decide) c173a c173b c173c ?_
  obtain ⟨c175, hw⟩ := hw
  refine pf_X12_givenBits O rfl rfl dX12_init_175 fl_X12_75 c175 ?_
  refine g_nmH (fun h175 e175 => ?_)
  have hw := hw h175 e175
  refine g_aload_n O dX12_init_178 rfl ?_
  refine g_bipush O dX12_init_179 kb_72 ?_
  obtain ⟨c181a, hw⟩ := hw
  obtain ⟨c181b, c181c, hw⟩ := hw
  refine g_newarray (atype := .int) (t := 0) (N := 72) O rfl (fun I J R j h1 h2 h3 => by simp [aval, h1, h2, newarray.typeOf, defaultValue]) (fun U cA q => q) dX12_init_181 ac_int (by decide) (by decide) (by decide) c181a c181b c181c ?_
  obtain ⟨c183, hw⟩ := hw
  refine pf_X12_sumFrom O rfl rfl dX12_init_183 fl_X12_78 c183 ?_
  refine g_nmH (fun h183 e183 => ?_)
  have hw := hw h183 e183
  refine g_aload_n O dX12_init_186 rfl ?_
  refine g_bipush O dX12_init_187 kb_72 ?_
  obtain ⟨c189a, hw⟩ := hw
  obtain ⟨c189b, c189c, hw⟩ := hw
  refine g_newarray (atype := .int) (t := 0) (N := 72) O rfl (fun I J R j h1 h2 h3 => by simp [aval, h1, h2, newarray.typeOf, defaultValue]) (fun U cA q => q) dX12_init_189 ac_int (by decide) (by decide) (by decide) c189a c189b c189c ?_
  obtain ⟨c191, hw⟩ := hw
  refine pf_X12_sumTo O rfl rfl dX12_init_191 fl_X12_81 c191 ?_
  refine g_nmH (fun h191 e191 => ?_)
  have hw := hw h191 e191
  refine g_aload_n O dX12_init_194 rfl ?_
  refine g_bipush O dX12_init_195 kb_24 ?_
  obtain ⟨c197a, hw⟩ := hw
  obtain ⟨c197b, c197c, hw⟩ := hw
  refine g_newarray (atype := .boolean) (t := 2) (N := 24) O rfl (fun I J R j h1 h2 h3 => by simp [aval, h1, h2, newarray.typeOf, defaultValue]) (fun U cA q => q) dX12_init_197 ac_boolean (by decide) (by decide) (by decide) c197a c197b c197c ?_
  obtain ⟨c199, hw⟩ := hw
  refine pf_X12_isAside O rfl rfl dX12_init_199 fl_X12_84 c199 ?_
  refine g_nmH (fun h199 e199 => ?_)
  have hw := hw h199 e199
  refine g_aload_n O dX12_init_202 rfl ?_
  refine g_sipush O dX12_init_203 ks_1400 ?_
  obtain ⟨c206a, hw⟩ := hw
  obtain ⟨c206b, c206c, hw⟩ := hw
  refine g_newarray (atype := .int) (t := 0) (N := 1400) O rfl (fun I J R j h1 h2 h3 => by simp [aval, h1, h2, newarray.typeOf, defaultValue]) (fun U cA q => q) dX12_init_206 ac_int (by decide) (by decide) (by decide) c206a c206b c206c ?_
  obtain ⟨c208, hw⟩ := hw
  refine pf_X12_what O rfl rfl dX12_init_208 fl_X12_88 c208 ?_
  refine g_nmH (fun h208 e208 => ?_)
  have hw := hw h208 e208
  refine g_aload_n O dX12_init_211 rfl ?_
  refine g_sipush O dX12_init_212 ks_1400 ?_
  obtain ⟨c215a, hw⟩ := hw
  obtain ⟨c215b, c215c, hw⟩ := hw
  refine g_newarray (atype := .int) (t := 0) (N := 1400) O rfl (fun I J R j h1 h2 h3 => by simp [aval, h1, h2, newarray.typeOf, defaultValue]) (fun U cA q => q) dX12_init_215 ac_int (by decide) (by decide) (by decide) c215a c215b c215c ?_
  obtain ⟨c217, hw⟩ := hw
  refine pf_X12_which O rfl rfl dX12_init_217 fl_X12_91 c217 ?_
  refine g_nmH (fun h217 e217 => ?_)
  have hw := hw h217 e217
  refine g_aload_n O dX12_init_220 rfl ?_
  refine g_sipush O dX12_init_221 ks_700 ?_
  obtain ⟨c224a, hw⟩ := hw
  obtain ⟨c224b, c224c, hw⟩ := hw
  refine g_newarray (atype := .int) (t := 0) (N := 700) O rfl (fun I J R j h1 h2 h3 => by simp [aval, h1, h2, newarray.typeOf, defaultValue]) (fun U cA q => q) dX12_init_224 ac_int (by decide) (by decide) (by decide) c224a c224b c224c ?_
  obtain ⟨c226, hw⟩ := hw
  refine pf_X12_pile O rfl rfl dX12_init_226 fl_X12_94 c226 ?_
  refine g_nmH (fun h226 e226 => ?_)
  have hw := hw h226 e226
  refine g_aload_n O dX12_init_229 rfl ?_
  refine g_sipush O dX12_init_230 ks_300 ?_
  obtain ⟨c233a, hw⟩ := hw
  obtain ⟨c233b, c233c, hw⟩ := hw
  refine g_newarray (atype := .boolean) (t := 2) (N := 300) O rfl (fun I J R j h1 h2 h3 => by simp [aval, h1, h2, newarray.typeOf, defaultValue]) (fun U cA q => q) dX12_init_233 ac_boolean (by decide) (by decide) (by decide) c233a c233b c233c ?_
  obtain ⟨c235, hw⟩ := hw
  refine pf_X12_isSound O rfl rfl dX12_init_235 fl_X12_97 c235 ?_
  refine g_nmH (fun h235 e235 => ?_)
  have hw := hw h235 e235
  refine g_aload_n O dX12_init_238 rfl ?_
  refine g_sipush O dX12_init_239 ks_20000 ?_
  obtain ⟨c242a, hw⟩ := hw
  obtain ⟨c242b, c242c, hw⟩ := hw
  refine g_newarray (atype := .boolean) (t := 2) (N := 20000) O rfl (fun I J R j h1 h2 h3 => by simp [aval, h1, h2, newarray.typeOf, defaultValue]) (fun U cA q => q) dX12_init_242 ac_boolean (by decide) (by decide) (by decide) c242a c242b c242c ?_
  obtain ⟨c244, hw⟩ := hw
  refine pf_X12_isGlued O rfl rfl dX12_init_244 fl_X12_100 c244 ?_
  refine g_nmH (fun h244 e244 => ?_)
  have hw := hw h244 e244
  refine g_aload_n O dX12_init_247 rfl ?_
  refine g_sipush O dX12_init_248 ks_200 ?_
  obtain ⟨c251a, hw⟩ := hw
  obtain ⟨c251b, c251c, hw⟩ := hw
  refine g_newarray (atype := .int) (t := 0) (N := 200) O rfl (fun I J R j h1 h2 h3 => by simp [aval, h1, h2, newarray.typeOf, defaultValue]) (fun U cA q => q) dX12_init_251 ac_int (by decide) (by decide) (by decide) c251a c251b c251c ?_
  obtain ⟨c253, hw⟩ := hw
  refine pf_X12_ink O rfl rfl dX12_init_253 fl_X12_103 c253 ?_
  refine g_nmH (fun h253 e253 => ?_)
  have hw := hw h253 e253
  refine g_aload_n O dX12_init_256 rfl ?_
  refine g_iconst O dX12_init_257 kv_m1 ?_
  refine pf_X12_runOf O dX12_init_258 fl_X12_106 c253 ?_
  refine g_nmH (fun h258 e258 => ?_)
  have hw := hw h258 e258
  refine g_aload_n O dX12_init_261 rfl ?_
  refine g_bipush O dX12_init_262 kb_100 ?_
  obtain ⟨c264a, hw⟩ := hw
  obtain ⟨c264b, c264c, hw⟩ := hw
  refine g_newarray (atype := .boolean) (t := 2) (N := 100) O rfl (fun I J R j h1 h2 h3 => by simp [aval, h1, h2, newarray.typeOf, defaultValue]) (fun U cA q => q) dX12_init_264 ac_boolean (by decide) (by decide) (by decide) c264a c264b c264c ?_
  obtain ⟨c266, hw⟩ := hw
  refine pf_X12_isBeside O rfl rfl dX12_init_266 fl_X12_109 c266 ?_
  refine g_nmH (fun h266 e266 => ?_)
  have hw := hw h266 e266
  refine g_aload_n O dX12_init_269 rfl ?_
  refine g_bipush O dX12_init_270 kb_100 ?_
  obtain ⟨c272a, hw⟩ := hw
  obtain ⟨c272b, c272c, hw⟩ := hw
  refine g_newarray (atype := .boolean) (t := 2) (N := 100) O rfl (fun I J R j h1 h2 h3 => by simp [aval, h1, h2, newarray.typeOf, defaultValue]) (fun U cA q => q) dX12_init_272 ac_boolean (by decide) (by decide) (by decide) c272a c272b c272c ?_
  obtain ⟨c274, hw⟩ := hw
  refine pf_X12_wasBeside O rfl rfl dX12_init_274 fl_X12_112 c274 ?_
  refine g_nmH (fun h274 e274 => ?_)
  have hw := hw h274 e274
  refine g_aload_n O dX12_init_277 rfl ?_
  refine g_bipush O dX12_init_278 kb_100 ?_
  obtain ⟨c280a, hw⟩ := hw
  obtain ⟨c280b, c280c, hw⟩ := hw
  refine g_newarray (atype := .int) (t := 0) (N := 100) O rfl (fun I J R j h1 h2 h3 => by simp [aval, h1, h2, newarray.typeOf, defaultValue]) (fun U cA q => q) dX12_init_280 ac_int (by decide) (by decide) (by decide) c280a c280b c280c ?_
  obtain ⟨c282, hw⟩ := hw
  refine pf_X12_far O rfl rfl dX12_init_282 fl_X12_115 c282 ?_
  refine g_nmH (fun h282 e282 => ?_)
  have hw := hw h282 e282
  refine g_aload_n O dX12_init_285 rfl ?_
  refine g_bipush O dX12_init_286 kb_100 ?_
  obtain ⟨c288a, hw⟩ := hw
  obtain ⟨c288b, c288c, hw⟩ := hw
  refine g_newarray (atype := .int) (t := 0) (N := 100) O rfl (fun I J R j h1 h2 h3 => by simp [aval, h1, h2, newarray.typeOf, defaultValue]) (fun U cA q => q) dX12_init_288 ac_int (by decide) (by decide) (by decide) c288a c288b c288c ?_
  obtain ⟨c290, hw⟩ := hw
  refine pf_X12_queue O rfl rfl dX12_init_290 fl_X12_118 c290 ?_
  obtain ⟨c293a, c293b, hw⟩ := hw
  exact g_widen c293a c293b (g_return O dX12_init_293 ⟨_, rfl, rfl, hw⟩)
theorem dX12_inks_0 : decode cX12_inks 0 = .ok (.aload_n 0, 1) := by decide +kernel
theorem dX12_inks_1 : decode cX12_inks 1 = .ok (.getfield 103, 3) := by decide +kernel
theorem dX12_inks_4 : decode cX12_inks 4 = .ok (.aload_n 0, 1) := by decide +kernel
theorem dX12_inks_5 : decode cX12_inks 5 = .ok (.getfield 457, 3) := by decide +kernel
theorem dX12_inks_8 : decode cX12_inks 8 = .ok (.iload_n 1, 1) := by decide +kernel
theorem dX12_inks_9 : decode cX12_inks 9 = .ok (.iastore, 1) := by decide +kernel
theorem dX12_inks_10 : decode cX12_inks 10 = .ok (.aload_n 0, 1) := by decide +kernel
theorem dX12_inks_11 : decode cX12_inks 11 = .ok (.dup, 1) := by decide +kernel
theorem dX12_inks_12 : decode cX12_inks 12 = .ok (.getfield 457, 3) := by decide +kernel
theorem dX12_inks_15 : decode cX12_inks 15 = .ok (.iconst 1, 1) := by decide +kernel
theorem dX12_inks_16 : decode cX12_inks 16 = .ok (.iadd, 1) := by decide +kernel
theorem dX12_inks_17 : decode cX12_inks 17 = .ok (.putfield 457, 3) := by decide +kernel
theorem dX12_inks_20 : decode cX12_inks 20 = .ok (.return_, 1) := by decide +kernel
theorem okX12_inks {E : Ev} {S : Sh} {Z : Option Nat} {Q : Hp → Prop} {h : Hp} {a0 : Nat} {x1 : Int32} (hw : wX12_inks S h a0 x1 Q) : Ct E yX12_inks cX12_inks 2 none 1 24 0 0 S Z h [vr a0, vi x1] (qV S Z Q) := by
  refine Ct.of (by decide) (lc := [some (vr a0), some (vi x1)]) (Nat.le_of_ble_eq_true rfl) rfl (fun X O => ?_)
  unfold wX12_inks at hw
  refine g_aload_n O dX12_inks_0 rfl ?_
  obtain ⟨c1, hw⟩ := hw
  refine gf_X12_ink O dX12_inks_1 fl_X12_103 c1 ?_
  refine g_aload_n O dX12_inks_4 rfl ?_
  refine gf_X12_inked O dX12_inks_5 fl_X12_457 c1 ?_
  refine g_iload_n O dX12_inks_8 rfl ?_
  obtain ⟨c9, hw⟩ := hw
  refine g_iastore O dX12_inks_9 c9.1 c9.2 ?_
  refine g_nmH (fun h9 e9 => ?_)
  have hw := hw h9 e9
  refine g_aload_n O dX12_inks_10 rfl ?_
  refine g_dup O dX12_inks_11 rfl ?_
  refine gf_X12_inked O dX12_inks_12 fl_X12_457 c1 ?_
  refine g_iconst O dX12_inks_15 kv_1 ?_
  refine g_iadd O dX12_inks_16 ?_
  refine pf_X12_inked O dX12_inks_17 fl_X12_457 c1 ?_
  exact g_return O dX12_inks_20 ⟨rfl, rfl, rfl, hw⟩
theorem dX12_inksNumber_0 : decode cX12_inksNumber 0 = .ok (.iload_n 1, 1) := by decide +kernel
theorem dX12_inksNumber_1 : decode cX12_inksNumber 1 = .ok (.bipush 9, 2) := by decide +kernel
theorem dX12_inksNumber_3 : decode cX12_inksNumber 3 = .ok (.if_icmp .le 11, 3) := by decide +kernel
theorem dX12_inksNumber_6 : decode cX12_inksNumber 6 = .ok (.aload_n 0, 1) := by decide +kernel
theorem dX12_inksNumber_7 : decode cX12_inksNumber 7 = .ok (.iload_n 1, 1) := by decide +kernel
theorem dX12_inksNumber_8 : decode cX12_inksNumber 8 = .ok (.bipush 10, 2) := by decide +kernel
theorem dX12_inksNumber_10 : decode cX12_inksNumber 10 = .ok (.idiv, 1) := by decide +kernel
theorem dX12_inksNumber_11 : decode cX12_inksNumber 11 = .ok (.invokevirtual 460, 3) := by decide +kernel
theorem dX12_inksNumber_14 : decode cX12_inksNumber 14 = .ok (.aload_n 0, 1) := by decide +kernel
theorem dX12_inksNumber_15 : decode cX12_inksNumber 15 = .ok (.bipush 48, 2) := by decide +kernel
theorem dX12_inksNumber_17 : decode cX12_inksNumber 17 = .ok (.iload_n 1, 1) := by decide +kernel
theorem dX12_inksNumber_18 : decode cX12_inksNumber 18 = .ok (.bipush 10, 2) := by decide +kernel
theorem dX12_inksNumber_20 : decode cX12_inksNumber 20 = .ok (.irem, 1) := by decide +kernel
theorem dX12_inksNumber_21 : decode cX12_inksNumber 21 = .ok (.iadd, 1) := by decide +kernel
theorem dX12_inksNumber_22 : decode cX12_inksNumber 22 = .ok (.invokevirtual 463, 3) := by decide +kernel
theorem dX12_inksNumber_25 : decode cX12_inksNumber 25 = .ok (.return_, 1) := by decide +kernel
def CtGX12N (E : Ev) (S : Sh) (Z : Option Nat) (d : Nat) (Gr : Nat → Hp → Nat → Int32 → (Hp → Prop) → Prop) : Prop := ∀ (h : Hp) (a0 : Nat) (x1 : Int32) (Q : Hp → Prop), (Gr 0 h a0 x1 Q → Ct E yX12_inksNumber cX12_inksNumber 2 none (2 + d) (45 + 40 * d) 0 0 S Z h [vr a0, vi x1] (qV S Z Q))
theorem okX12_inksNumber_b {E : Ev} {S : Sh} {Z : Option Nat} {d : Nat} {Gr : Nat → Hp → Nat → Int32 → (Hp → Prop) → Prop} {Q : Hp → Prop} {h : Hp} {a0 : Nat} {x1 : Int32} (hG : CtGX12N E S Z d Gr) (hw : wX12_inksNumber_b S Gr h a0 x1 Q) : Ct E yX12_inksNumber cX12_inksNumber 2 none (2 + (d + 1)) (45 + 40 * (d + 1)) 0 0 S Z h [vr a0, vi x1] (qV S Z Q) := by
  refine Ct.of (by decide) (lc := [some (vr a0), some (vi x1)]) (Nat.le_of_ble_eq_true rfl) rfl (fun X O => ?_)
  unfold wX12_inksNumber_b at hw
  refine g_iload_n O dX12_inksNumber_0 rfl ?_
  refine g_bipush O dX12_inksNumber_1 kb_9 ?_
  refine g_icmp_le (tgt := 14) O dX12_inksNumber_3 rfl (fun q3 => ?_) (fun q3 => ?_)
  · have hw := hw.1 q3
    refine g_aload_n O dX12_inksNumber_14 rfl ?_
    refine g_bipush O dX12_inksNumber_15 kb_48 ?_
    refine g_iload_n O dX12_inksNumber_17 rfl ?_
    refine g_bipush O dX12_inksNumber_18 kb_10 ?_
    obtain ⟨c20, hw⟩ := hw
    refine g_irem O dX12_inksNumber_20 c20 ?_
    refine g_iadd O dX12_inksNumber_21 ?_
    obtain ⟨c22, hw⟩ := hw
    refine g_callV (As := [vi (((48 : Int32) + (rem32 x1 (10 : Int32))))]) (rest := []) O ci_12 rfl dX12_inksNumber_22 ml_X12_463 im_yX12_inks se_yX12_inks ini_X12 co_yX12_inks yo_yX12_inks c22 rfl rfl (Nat.le_of_ble_eq_true rfl) ⟨by omega, by omega, by omega, by omega⟩ (okX12_inks hw) (k_V fun h22 hw => ?_)
    exact g_return O dX12_inksNumber_25 ⟨rfl, rfl, rfl, hw⟩
  · have hw := hw.2 q3
    refine g_aload_n O dX12_inksNumber_6 rfl ?_
    refine g_iload_n O dX12_inksNumber_7 rfl ?_
    refine g_bipush O dX12_inksNumber_8 kb_10 ?_
    obtain ⟨c10, hw⟩ := hw
    refine g_idiv O dX12_inksNumber_10 c10 ?_
    obtain ⟨c11, hw⟩ := hw
    refine g_callV (As := [vi ((x1 / (10 : Int32)))]) (rest := []) O ci_12 rfl dX12_inksNumber_11 ml_X12_460 im_yX12_inksNumber se_yX12_inksNumber ini_X12 co_yX12_inksNumber yo_yX12_inksNumber c11 rfl rfl (Nat.le_of_ble_eq_true rfl) ⟨by omega, by omega, by omega, by omega⟩ (hG _ _ _ _ hw) (k_V fun h11 hw => ?_)
    refine g_aload_n O dX12_inksNumber_14 rfl ?_
    refine g_bipush O dX12_inksNumber_15 kb_48 ?_
    refine g_iload_n O dX12_inksNumber_17 rfl ?_
    refine g_bipush O dX12_inksNumber_18 kb_10 ?_
    refine g_irem O dX12_inksNumber_20 c10 ?_
    refine g_iadd O dX12_inksNumber_21 ?_
    refine g_callV (As := [vi (((48 : Int32) + (rem32 x1 (10 : Int32))))]) (rest := []) O ci_12 rfl dX12_inksNumber_22 ml_X12_463 im_yX12_inks se_yX12_inks ini_X12 co_yX12_inks yo_yX12_inks c11 rfl rfl (Nat.le_of_ble_eq_true rfl) ⟨by omega, by omega, by omega, by omega⟩ (okX12_inks hw) (k_V fun h22 hw => ?_)
    exact g_return O dX12_inksNumber_25 ⟨rfl, rfl, rfl, hw⟩
theorem okX12N {E : Ev} {S : Sh} {Z : Option Nat} : ∀ d : Nat, CtGX12N E S Z d (wX12N S d) := by
  intro d
  induction d with
  | zero =>
    intro h a0 x1 Q
    exact fun hw => hw.elim
  | succ d ih =>
    intro h a0 x1 Q
    exact fun hw => okX12_inksNumber_b ih hw
theorem okX12_inksNumber {E : Ev} {S : Sh} {Z : Option Nat} {h : Hp} {a0 : Nat} {x1 : Int32} {Q : Hp → Prop} (hw : wX12_inksNumber S h a0 x1 Q) : Ct E yX12_inksNumber cX12_inksNumber 2 none 8 285 0 0 S Z h [vr a0, vi x1] (qV S Z Q) := (okX12N 6 h a0 x1 Q) hw
theorem dX12_letterOf_0 : decode cX12_letterOf 0 = .ok (.iconst 0, 1) := by decide +kernel
theorem dX12_letterOf_1 : decode cX12_letterOf 1 = .ok (.istore_n 3, 1) := by decide +kernel
theorem dX12_letterOf_2 : decode cX12_letterOf 2 = .ok (.lload_n 0, 1) := by decide +kernel
theorem dX12_letterOf_3 : decode cX12_letterOf 3 = .ok (.lstore 4, 2) := by decide +kernel
theorem dX12_letterOf_5 : decode cX12_letterOf 5 = .ok (.lload 4, 2) := by decide +kernel
theorem dX12_letterOf_7 : decode cX12_letterOf 7 = .ok (.lconst 0, 1) := by decide +kernel
theorem dX12_letterOf_8 : decode cX12_letterOf 8 = .ok (.lcmp, 1) := by decide +kernel
theorem dX12_letterOf_9 : decode cX12_letterOf 9 = .ok (.ifCond .le 17, 3) := by decide +kernel
theorem dX12_letterOf_12 : decode cX12_letterOf 12 = .ok (.iinc 3 1, 3) := by decide +kernel
theorem dX12_letterOf_15 : decode cX12_letterOf 15 = .ok (.lload 4, 2) := by decide +kernel
theorem dX12_letterOf_17 : decode cX12_letterOf 17 = .ok (.ldc2_w 160, 3) := by decide +kernel
theorem dX12_letterOf_20 : decode cX12_letterOf 20 = .ok (.ldiv, 1) := by decide +kernel
theorem dX12_letterOf_21 : decode cX12_letterOf 21 = .ok (.lstore 4, 2) := by decide +kernel
theorem dX12_letterOf_23 : decode cX12_letterOf 23 = .ok (.goto (-18), 3) := by decide +kernel
theorem dX12_letterOf_26 : decode cX12_letterOf 26 = .ok (.iload_n 2, 1) := by decide +kernel
theorem dX12_letterOf_27 : decode cX12_letterOf 27 = .ok (.iconst 0, 1) := by decide +kernel
theorem dX12_letterOf_28 : decode cX12_letterOf 28 = .ok (.iload_n 3, 1) := by decide +kernel
theorem dX12_letterOf_29 : decode cX12_letterOf 29 = .ok (.iconst 1, 1) := by decide +kernel
theorem dX12_letterOf_30 : decode cX12_letterOf 30 = .ok (.isub, 1) := by decide +kernel
theorem dX12_letterOf_31 : decode cX12_letterOf 31 = .ok (.invokestatic 142, 3) := by decide +kernel
theorem dX12_letterOf_34 : decode cX12_letterOf 34 = .ok (.ifCond .ne 5, 3) := by decide +kernel
theorem dX12_letterOf_37 : decode cX12_letterOf 37 = .ok (.iconst (-1), 1) := by decide +kernel
theorem dX12_letterOf_38 : decode cX12_letterOf 38 = .ok (.ireturn, 1) := by decide +kernel
theorem dX12_letterOf_39 : decode cX12_letterOf 39 = .ok (.lload_n 0, 1) := by decide +kernel
theorem dX12_letterOf_40 : decode cX12_letterOf 40 = .ok (.lstore 4, 2) := by decide +kernel
theorem dX12_letterOf_42 : decode cX12_letterOf 42 = .ok (.iload_n 3, 1) := by decide +kernel
theorem dX12_letterOf_43 : decode cX12_letterOf 43 = .ok (.iconst 1, 1) := by decide +kernel
theorem dX12_letterOf_44 : decode cX12_letterOf 44 = .ok (.isub, 1) := by decide +kernel
theorem dX12_letterOf_45 : decode cX12_letterOf 45 = .ok (.istore 6, 2) := by decide +kernel
theorem dX12_letterOf_47 : decode cX12_letterOf 47 = .ok (.iload 6, 2) := by decide +kernel
theorem dX12_letterOf_49 : decode cX12_letterOf 49 = .ok (.iload_n 2, 1) := by decide +kernel
theorem dX12_letterOf_50 : decode cX12_letterOf 50 = .ok (.if_icmp .le 17, 3) := by decide +kernel
theorem dX12_letterOf_53 : decode cX12_letterOf 53 = .ok (.lload 4, 2) := by decide +kernel
theorem dX12_letterOf_55 : decode cX12_letterOf 55 = .ok (.ldc2_w 160, 3) := by decide +kernel
theorem dX12_letterOf_58 : decode cX12_letterOf 58 = .ok (.ldiv, 1) := by decide +kernel
theorem dX12_letterOf_59 : decode cX12_letterOf 59 = .ok (.lstore 4, 2) := by decide +kernel
theorem dX12_letterOf_61 : decode cX12_letterOf 61 = .ok (.iinc 6 (-1), 3) := by decide +kernel
theorem dX12_letterOf_64 : decode cX12_letterOf 64 = .ok (.goto (-17), 3) := by decide +kernel
theorem dX12_letterOf_67 : decode cX12_letterOf 67 = .ok (.lload 4, 2) := by decide +kernel
theorem dX12_letterOf_69 : decode cX12_letterOf 69 = .ok (.ldc2_w 160, 3) := by decide +kernel
theorem dX12_letterOf_72 : decode cX12_letterOf 72 = .ok (.lrem, 1) := by decide +kernel
theorem dX12_letterOf_73 : decode cX12_letterOf 73 = .ok (.l2i, 1) := by decide +kernel
theorem dX12_letterOf_74 : decode cX12_letterOf 74 = .ok (.iconst 1, 1) := by decide +kernel
theorem dX12_letterOf_75 : decode cX12_letterOf 75 = .ok (.isub, 1) := by decide +kernel
theorem dX12_letterOf_76 : decode cX12_letterOf 76 = .ok (.ireturn, 1) := by decide +kernel
theorem okX12_letterOf_47 {E : Ev} {X : Cx} {S : Sh} {Z : Option Nat} {Q : Int32 → Hp → Prop} {x2 : Int32} (O : Ok E X yX12_letterOf cX12_letterOf 7 (some .int) 2 46 0 0 (qI S Z Q)) : ∀ (n : Nat) (h : Hp) (j4 : Int64) (x6 : Int32), wX12_letterOf_47 S x2 Q n h j4 x6 → G E X 0 0 S Z h 47 [none, none, some (vi x2), none, some (vj j4), none, some (vi x6)] [] := by
  intro n
  induction n with
  | zero => intro h j4 x6 hw; exact hw.elim
  | succ n hB47 =>
    intro h j4 x6 hw
    have hw : wX12_letterOf_47b S x2 Q (wX12_letterOf_47 S x2 Q n) h j4 x6 := hw
    unfold wX12_letterOf_47b at hw
    refine g_iload O dX12_letterOf_47 rfl ?_
    refine g_iload_n O dX12_letterOf_49 rfl ?_
    refine g_icmp_le (tgt := 67) O dX12_letterOf_50 rfl (fun q50 => ?_) (fun q50 => ?_)
    · have hw := hw.1 q50
      refine g_lload O dX12_letterOf_67 rfl ?_
      refine g_ldc2 O dX12_letterOf_69 kl_X12_160 ?_
      obtain ⟨c72, hw⟩ := hw
      refine g_lrem O dX12_letterOf_72 c72 ?_
      refine g_l2i O dX12_letterOf_73 ?_
      refine g_iconst O dX12_letterOf_74 kv_1 ?_
      refine g_isub O dX12_letterOf_75 ?_
      exact g_ireturn O dX12_letterOf_76 ⟨rfl, rfl, _, rfl, hw⟩
    · have hw := hw.2 q50
      refine g_lload O dX12_letterOf_53 rfl ?_
      refine g_ldc2 O dX12_letterOf_55 kl_X12_160 ?_
      obtain ⟨c58, hw⟩ := hw
      refine g_ldiv O dX12_letterOf_58 c58 ?_
      refine g_lstore (lc' := [none, none, some (vi x2), none, some (vj (j4 / (32 : Int64))), none, some (vi x6)]) O dX12_letterOf_59 rfl (Nat.le_of_ble_eq_true rfl) rfl ?_
      refine g_iinc (lc' := [none, none, some (vi x2), none, some (vj (j4 / (32 : Int64))), none, some (vi (x6 + (-1 : Int32)))]) O dX12_letterOf_61 rfl kv_m1 rfl rfl ?_
      refine g_goto (tgt := 47) O dX12_letterOf_64 rfl ?_
      exact hB47 _ _ _ hw
theorem okX12_letterOf_j26 {E : Ev} {X : Cx} {S : Sh} {Z : Option Nat} {Q : Int32 → Hp → Prop} {h : Hp} {j0 : Int64} {x2 : Int32} {x3 : Int32} (O : Ok E X yX12_letterOf cX12_letterOf 7 (some .int) 2 46 0 0 (qI S Z Q)) (hw : wX12_letterOf_j26 S h j0 x2 x3 Q) : G E X 0 0 S Z h 26 [some (vj j0), none, some (vi x2), some (vi x3), none, none, none] [] := by
  unfold wX12_letterOf_j26 at hw
  refine g_iload_n O dX12_letterOf_26 rfl ?_
  refine g_iconst O dX12_letterOf_27 kv_0 ?_
  refine g_iload_n O dX12_letterOf_28 rfl ?_
  refine g_iconst O dX12_letterOf_29 kv_1 ?_
  refine g_isub O dX12_letterOf_30 ?_
  refine g_callS (As := [vi x2, vi (0 : Int32), vi ((x3 - (1 : Int32)))]) (rest := []) O dX12_letterOf_31 ml_X12_142 st_yX12_in ini_X12 co_yX12_in yo_yX12_in rfl rfl (Nat.le_of_ble_eq_true rfl) ⟨by decide, by decide, by decide, by decide⟩ (okX12_in hw) (k_I fun r31 h31 hw => ?_)
  refine g_if_ne (tgt := 39) O dX12_letterOf_34 rfl (fun q34 => ?_) (fun q34 => ?_)
  · have hw := hw.1 q34
    refine g_lload_n O dX12_letterOf_39 rfl ?_
    refine g_lstore (lc' := [some (vj j0), none, some (vi x2), some (vi x3), some (vj j0), none, none]) O dX12_letterOf_40 rfl (Nat.le_of_ble_eq_true rfl) rfl ?_
    refine g_iload_n O dX12_letterOf_42 rfl ?_
    refine g_iconst O dX12_letterOf_43 kv_1 ?_
    refine g_isub O dX12_letterOf_44 ?_
    refine g_istore (lc' := [some (vj j0), none, some (vi x2), some (vi x3), some (vj j0), none, some (vi (x3 - (1 : Int32)))]) O dX12_letterOf_45 rfl (Nat.le_of_ble_eq_true rfl) rfl ?_
    refine g_mask [false, false, true, false, true, false, true] rfl rfl ?_
    obtain ⟨n47, hw⟩ := hw
    exact okX12_letterOf_47 O n47 _ _ _ hw
  · have hw := hw.2 q34
    refine g_iconst O dX12_letterOf_37 kv_m1 ?_
    exact g_ireturn O dX12_letterOf_38 ⟨rfl, rfl, _, rfl, hw⟩
theorem okX12_letterOf_5 {E : Ev} {X : Cx} {S : Sh} {Z : Option Nat} {Q : Int32 → Hp → Prop} {j0 : Int64} {x2 : Int32} (O : Ok E X yX12_letterOf cX12_letterOf 7 (some .int) 2 46 0 0 (qI S Z Q)) : ∀ (n : Nat) (h : Hp) (x3 : Int32) (j4 : Int64), wX12_letterOf_5 S j0 x2 Q n h x3 j4 → G E X 0 0 S Z h 5 [some (vj j0), none, some (vi x2), some (vi x3), some (vj j4), none, none] [] := by
  intro n
  induction n with
  | zero => intro h x3 j4 hw; exact hw.elim
  | succ n hB5 =>
    intro h x3 j4 hw
    have hw : wX12_letterOf_5b S j0 x2 Q (wX12_letterOf_5 S j0 x2 Q n) h x3 j4 := hw
    unfold wX12_letterOf_5b at hw
    refine g_lload O dX12_letterOf_5 rfl ?_
    refine g_lconst O dX12_letterOf_7 kl_0 ?_
    refine g_lcmp O dX12_letterOf_8 ?_
    refine g_if_le (tgt := 26) O dX12_letterOf_9 rfl (fun q9 => ?_) (fun q9 => ?_)
    · have hw := hw.1 q9
      refine g_mask [true, false, true, true, false, false, false] rfl rfl ?_
      exact okX12_letterOf_j26 O hw
    · have hw := hw.2 q9
      refine g_iinc (lc' := [some (vj j0), none, some (vi x2), some (vi (x3 + (1 : Int32))), some (vj j4), none, none]) O dX12_letterOf_12 rfl kv_1 rfl rfl ?_
      refine g_lload O dX12_letterOf_15 rfl ?_
      refine g_ldc2 O dX12_letterOf_17 kl_X12_160 ?_
      obtain ⟨c20, hw⟩ := hw
      refine g_ldiv O dX12_letterOf_20 c20 ?_
      refine g_lstore (lc' := [some (vj j0), none, some (vi x2), some (vi (x3 + (1 : Int32))), some (vj (j4 / (32 : Int64))), none, none]) O dX12_letterOf_21 rfl (Nat.le_of_ble_eq_true rfl) rfl ?_
      refine g_goto (tgt := 5) O dX12_letterOf_23 rfl ?_
      exact hB5 _ _ _ hw
theorem okX12_letterOf {E : Ev} {S : Sh} {Z : Option Nat} {Q : Int32 → Hp → Prop} {h : Hp} {j0 : Int64} {x2 : Int32} (hw : wX12_letterOf S h j0 x2 Q) : Ct E yX12_letterOf cX12_letterOf 7 (some .int) 2 46 0 0 S Z h [vj j0, vi x2] (qI S Z Q) := by
  refine Ct.of (by decide) (lc := [some (vj j0), none, some (vi x2), none, none, none, none]) (Nat.le_of_ble_eq_true rfl) rfl (fun X O => ?_)
  unfold wX12_letterOf at hw
  refine g_iconst O dX12_letterOf_0 kv_0 ?_
  refine g_istore_n (lc' := [some (vj j0), none, some (vi x2), some (vi (0 : Int32)), none, none, none]) O dX12_letterOf_1 rfl (Nat.le_of_ble_eq_true rfl) rfl ?_
  refine g_lload_n O dX12_letterOf_2 rfl ?_
  refine g_lstore (lc' := [some (vj j0), none, some (vi x2), some (vi (0 : Int32)), some (vj j0), none, none]) O dX12_letterOf_3 rfl (Nat.le_of_ble_eq_true rfl) rfl ?_
  obtain ⟨n5, hw⟩ := hw
  exact okX12_letterOf_5 O n5 _ _ _ hw
theorem dX12_inksState_0 : decode cX12_inksState 0 = .ok (.iconst 0, 1) := by decide +kernel
theorem dX12_inksState_1 : decode cX12_inksState 1 = .ok (.istore_n 3, 1) := by decide +kernel
theorem dX12_inksState_2 : decode cX12_inksState 2 = .ok (.iload_n 3, 1) := by decide +kernel
theorem dX12_inksState_3 : decode cX12_inksState 3 = .ok (.aload_n 0, 1) := by decide +kernel
theorem dX12_inksState_4 : decode cX12_inksState 4 = .ok (.getfield 27, 3) := by decide +kernel
theorem dX12_inksState_7 : decode cX12_inksState 7 = .ok (.iload_n 1, 1) := by decide +kernel
theorem dX12_inksState_8 : decode cX12_inksState 8 = .ok (.iaload, 1) := by decide +kernel
theorem dX12_inksState_9 : decode cX12_inksState 9 = .ok (.if_icmp .ge 82, 3) := by decide +kernel
theorem dX12_inksState_12 : decode cX12_inksState 12 = .ok (.iconst 0, 1) := by decide +kernel
theorem dX12_inksState_13 : decode cX12_inksState 13 = .ok (.istore 4, 2) := by decide +kernel
theorem dX12_inksState_15 : decode cX12_inksState 15 = .ok (.aload_n 0, 1) := by decide +kernel
theorem dX12_inksState_16 : decode cX12_inksState 16 = .ok (.getfield 21, 3) := by decide +kernel
theorem dX12_inksState_19 : decode cX12_inksState 19 = .ok (.iconst 3, 1) := by decide +kernel
theorem dX12_inksState_20 : decode cX12_inksState 20 = .ok (.iload_n 1, 1) := by decide +kernel
theorem dX12_inksState_21 : decode cX12_inksState 21 = .ok (.imul, 1) := by decide +kernel
theorem dX12_inksState_22 : decode cX12_inksState 22 = .ok (.iload_n 3, 1) := by decide +kernel
theorem dX12_inksState_23 : decode cX12_inksState 23 = .ok (.iadd, 1) := by decide +kernel
theorem dX12_inksState_24 : decode cX12_inksState 24 = .ok (.laload, 1) := by decide +kernel
theorem dX12_inksState_25 : decode cX12_inksState 25 = .ok (.iload 4, 2) := by decide +kernel
theorem dX12_inksState_27 : decode cX12_inksState 27 = .ok (.invokestatic 466, 3) := by decide +kernel
theorem dX12_inksState_30 : decode cX12_inksState 30 = .ok (.iconst (-1), 1) := by decide +kernel
theorem dX12_inksState_31 : decode cX12_inksState 31 = .ok (.if_icmp .eq 31, 3) := by decide +kernel
theorem dX12_inksState_34 : decode cX12_inksState 34 = .ok (.aload_n 0, 1) := by decide +kernel
theorem dX12_inksState_35 : decode cX12_inksState 35 = .ok (.bipush 97, 2) := by decide +kernel
theorem dX12_inksState_37 : decode cX12_inksState 37 = .ok (.aload_n 0, 1) := by decide +kernel
theorem dX12_inksState_38 : decode cX12_inksState 38 = .ok (.getfield 21, 3) := by decide +kernel
theorem dX12_inksState_41 : decode cX12_inksState 41 = .ok (.iconst 3, 1) := by decide +kernel
theorem dX12_inksState_42 : decode cX12_inksState 42 = .ok (.iload_n 1, 1) := by decide +kernel
theorem dX12_inksState_43 : decode cX12_inksState 43 = .ok (.imul, 1) := by decide +kernel
theorem dX12_inksState_44 : decode cX12_inksState 44 = .ok (.iload_n 3, 1) := by decide +kernel
theorem dX12_inksState_45 : decode cX12_inksState 45 = .ok (.iadd, 1) := by decide +kernel
theorem dX12_inksState_46 : decode cX12_inksState 46 = .ok (.laload, 1) := by decide +kernel
theorem dX12_inksState_47 : decode cX12_inksState 47 = .ok (.iload 4, 2) := by decide +kernel
theorem dX12_inksState_49 : decode cX12_inksState 49 = .ok (.invokestatic 466, 3) := by decide +kernel
theorem dX12_inksState_52 : decode cX12_inksState 52 = .ok (.iadd, 1) := by decide +kernel
theorem dX12_inksState_53 : decode cX12_inksState 53 = .ok (.invokevirtual 463, 3) := by decide +kernel
theorem dX12_inksState_56 : decode cX12_inksState 56 = .ok (.iinc 4 1, 3) := by decide +kernel
theorem dX12_inksState_59 : decode cX12_inksState 59 = .ok (.goto (-44), 3) := by decide +kernel
theorem dX12_inksState_62 : decode cX12_inksState 62 = .ok (.aload_n 0, 1) := by decide +kernel
theorem dX12_inksState_63 : decode cX12_inksState 63 = .ok (.bipush 61, 2) := by decide +kernel
theorem dX12_inksState_65 : decode cX12_inksState 65 = .ok (.invokevirtual 463, 3) := by decide +kernel
theorem dX12_inksState_68 : decode cX12_inksState 68 = .ok (.aload_n 0, 1) := by decide +kernel
theorem dX12_inksState_69 : decode cX12_inksState 69 = .ok (.aload_n 0, 1) := by decide +kernel
theorem dX12_inksState_70 : decode cX12_inksState 70 = .ok (.iload_n 1, 1) := by decide +kernel
theorem dX12_inksState_71 : decode cX12_inksState 71 = .ok (.iload_n 2, 1) := by decide +kernel
theorem dX12_inksState_72 : decode cX12_inksState 72 = .ok (.iload_n 3, 1) := by decide +kernel
theorem dX12_inksState_73 : decode cX12_inksState 73 = .ok (.invokevirtual 368, 3) := by decide +kernel
theorem dX12_inksState_76 : decode cX12_inksState 76 = .ok (.invokevirtual 460, 3) := by decide +kernel
theorem dX12_inksState_79 : decode cX12_inksState 79 = .ok (.aload_n 0, 1) := by decide +kernel
theorem dX12_inksState_80 : decode cX12_inksState 80 = .ok (.bipush 32, 2) := by decide +kernel
theorem dX12_inksState_82 : decode cX12_inksState 82 = .ok (.invokevirtual 463, 3) := by decide +kernel
theorem dX12_inksState_85 : decode cX12_inksState 85 = .ok (.iinc 3 1, 3) := by decide +kernel
theorem dX12_inksState_88 : decode cX12_inksState 88 = .ok (.goto (-86), 3) := by decide +kernel
theorem dX12_inksState_91 : decode cX12_inksState 91 = .ok (.return_, 1) := by decide +kernel
theorem okX12_inksState_j62 {E : Ev} {X : Cx} {S : Sh} {Z : Option Nat} {Q : Hp → Prop} {B2 : Hp → Int32 → Prop} {h : Hp} {a0 : Nat} {x1 : Int32} {x2 : Int32} {x3 : Int32} (O : Ok E X yX12_inksState cX12_inksState 5 none 9 306 0 0 (qV S Z Q)) (hB2 : ∀ (h : Hp) (x3 : Int32), B2 h x3 → G E X 0 0 S Z h 2 [some (vr a0), some (vi x1), some (vi x2), some (vi x3), none] []) (hw : wX12_inksState_j62 S B2 h a0 x1 x2 x3 Q) : G E X 0 0 S Z h 62 [some (vr a0), some (vi x1), some (vi x2), some (vi x3), none] [] := by
  unfold wX12_inksState_j62 at hw
  refine g_aload_n O dX12_inksState_62 rfl ?_
  refine g_bipush O dX12_inksState_63 kb_61 ?_
  obtain ⟨c65, hw⟩ := hw
  refine g_callV (As := [vi (61 : Int32)]) (rest := []) O ci_12 rfl dX12_inksState_65 ml_X12_463 im_yX12_inks se_yX12_inks ini_X12 co_yX12_inks yo_yX12_inks c65 rfl rfl (Nat.le_of_ble_eq_true rfl) ⟨by decide, by decide, by decide, by decide⟩ (okX12_inks hw) (k_V fun h65 hw => ?_)
  refine g_aload_n O dX12_inksState_68 rfl ?_
  refine g_aload_n O dX12_inksState_69 rfl ?_
  refine g_iload_n O dX12_inksState_70 rfl ?_
  refine g_iload_n O dX12_inksState_71 rfl ?_
  refine g_iload_n O dX12_inksState_72 rfl ?_
  refine g_callV (As := [vi x1, vi x2, vi x3]) (rest := [vr a0]) O ci_12 rfl dX12_inksState_73 ml_X12_368 im_yX12_valueOf se_yX12_valueOf ini_X12 co_yX12_valueOf yo_yX12_valueOf c65 rfl rfl (Nat.le_of_ble_eq_true rfl) ⟨by decide, by decide, by decide, by decide⟩ (okX12_valueOf hw) (k_I fun r73 h73 hw => ?_)
  refine g_callV (As := [vi r73]) (rest := []) O ci_12 rfl dX12_inksState_76 ml_X12_460 im_yX12_inksNumber se_yX12_inksNumber ini_X12 co_yX12_inksNumber yo_yX12_inksNumber c65 rfl rfl (Nat.le_of_ble_eq_true rfl) ⟨by decide, by decide, by decide, by decide⟩ (okX12_inksNumber hw) (k_V fun h76 hw => ?_)
  refine g_aload_n O dX12_inksState_79 rfl ?_
  refine g_bipush O dX12_inksState_80 kb_32 ?_
  refine g_callV (As := [vi (32 : Int32)]) (rest := []) O ci_12 rfl dX12_inksState_82 ml_X12_463 im_yX12_inks se_yX12_inks ini_X12 co_yX12_inks yo_yX12_inks c65 rfl rfl (Nat.le_of_ble_eq_true rfl) ⟨by decide, by decide, by decide, by decide⟩ (okX12_inks hw) (k_V fun h82 hw => ?_)
  refine g_iinc (lc' := [some (vr a0), some (vi x1), some (vi x2), some (vi (x3 + (1 : Int32))), none]) O dX12_inksState_85 rfl kv_1 rfl rfl ?_
  refine g_goto (tgt := 2) O dX12_inksState_88 rfl ?_
  exact hB2 _ _ hw
theorem okX12_inksState_15 {E : Ev} {X : Cx} {S : Sh} {Z : Option Nat} {Q : Hp → Prop} {B2 : Hp → Int32 → Prop} {a0 : Nat} {x1 : Int32} {x2 : Int32} {x3 : Int32} (O : Ok E X yX12_inksState cX12_inksState 5 none 9 306 0 0 (qV S Z Q)) (hB2 : ∀ (h : Hp) (x3 : Int32), B2 h x3 → G E X 0 0 S Z h 2 [some (vr a0), some (vi x1), some (vi x2), some (vi x3), none] []) : ∀ (n : Nat) (h : Hp) (x4 : Int32), wX12_inksState_15 S B2 a0 x1 x2 x3 Q n h x4 → G E X 0 0 S Z h 15 [some (vr a0), some (vi x1), some (vi x2), some (vi x3), some (vi x4)] [] := by
  intro n
  induction n with
  | zero => intro h x4 hw; exact hw.elim
  | succ n hB15 =>
    intro h x4 hw
    have hw : wX12_inksState_15b S B2 a0 x1 x2 x3 Q (wX12_inksState_15 S B2 a0 x1 x2 x3 Q n) h x4 := hw
    unfold wX12_inksState_15b at hw
    refine g_aload_n O dX12_inksState_15 rfl ?_
    obtain ⟨c16, hw⟩ := hw
    refine gf_X12_varName O dX12_inksState_16 fl_X12_21 c16 ?_
    refine g_iconst O dX12_inksState_19 kv_3 ?_
    refine g_iload_n O dX12_inksState_20 rfl ?_
    refine g_imul O dX12_inksState_21 ?_
    refine g_iload_n O dX12_inksState_22 rfl ?_
    refine g_iadd O dX12_inksState_23 ?_
    obtain ⟨c24, hw⟩ := hw
    refine g_laload O dX12_inksState_24 c24.1 c24.2 ?_
    refine g_iload O dX12_inksState_25 rfl ?_
    refine g_callS (As := [vj ((gJ h (gR h a0 15) (ix ((((3 : Int32) * x1) + x3))))), vi x4]) (rest := []) O dX12_inksState_27 ml_X12_466 st_yX12_letterOf ini_X12 co_yX12_letterOf yo_yX12_letterOf rfl rfl (Nat.le_of_ble_eq_true rfl) ⟨by decide, by decide, by decide, by decide⟩ (okX12_letterOf hw) (k_I fun r27 h27 hw => ?_)
    refine g_iconst O dX12_inksState_30 kv_m1 ?_
    refine g_icmp_eq (tgt := 62) O dX12_inksState_31 rfl (fun q31 => ?_) (fun q31 => ?_)
    · have hw := hw.1 q31
      refine g_mask [true, true, true, true, false] rfl rfl ?_
      exact okX12_inksState_j62 O hB2 hw
    · have hw := hw.2 q31
      refine g_aload_n O dX12_inksState_34 rfl ?_
      refine g_bipush O dX12_inksState_35 kb_97 ?_
      refine g_aload_n O dX12_inksState_37 rfl ?_
      refine gf_X12_varName O dX12_inksState_38 fl_X12_21 c16 ?_
      refine g_iconst O dX12_inksState_41 kv_3 ?_
      refine g_iload_n O dX12_inksState_42 rfl ?_
      refine g_imul O dX12_inksState_43 ?_
      refine g_iload_n O dX12_inksState_44 rfl ?_
      refine g_iadd O dX12_inksState_45 ?_
      obtain ⟨c46, hw⟩ := hw
      refine g_laload O dX12_inksState_46 c46.1 c46.2 ?_
      refine g_iload O dX12_inksState_47 rfl ?_
      refine g_callS (As := [vj ((gJ h27 (gR h27 a0 15) (ix ((((3 : Int32) * x1) + x3))))), vi x4]) (rest := [vi (97 : Int32), vr a0]) O dX12_inksState_49 ml_X12_466 st_yX12_letterOf ini_X12 co_yX12_letterOf yo_yX12_letterOf rfl rfl (Nat.le_of_ble_eq_true rfl) ⟨by decide, by decide, by decide, by decide⟩ (okX12_letterOf hw) (k_I fun r49 h49 hw => ?_)
      refine g_iadd O dX12_inksState_52 ?_
      refine g_callV (As := [vi (((97 : Int32) + r49))]) (rest := []) O ci_12 rfl dX12_inksState_53 ml_X12_463 im_yX12_inks se_yX12_inks ini_X12 co_yX12_inks yo_yX12_inks c16 rfl rfl (Nat.le_of_ble_eq_true rfl) ⟨by decide, by decide, by decide, by decide⟩ (okX12_inks hw) (k_V fun h53 hw => ?_)
      refine g_iinc (lc' := [some (vr a0), some (vi x1), some (vi x2), some (vi x3), some (vi (x4 + (1 : Int32)))]) O dX12_inksState_56 rfl kv_1 rfl rfl ?_
      refine g_goto (tgt := 15) O dX12_inksState_59 rfl ?_
      exact hB15 _ _ hw
theorem okX12_inksState_2 {E : Ev} {X : Cx} {S : Sh} {Z : Option Nat} {Q : Hp → Prop} {a0 : Nat} {x1 : Int32} {x2 : Int32} (O : Ok E X yX12_inksState cX12_inksState 5 none 9 306 0 0 (qV S Z Q)) : ∀ (n : Nat) (h : Hp) (x3 : Int32), wX12_inksState_2 S a0 x1 x2 Q n h x3 → G E X 0 0 S Z h 2 [some (vr a0), some (vi x1), some (vi x2), some (vi x3), none] [] := by
  intro n
  induction n with
  | zero => intro h x3 hw; exact hw.elim
  | succ n hB2 =>
    intro h x3 hw
    have hw : wX12_inksState_2b S a0 x1 x2 Q (wX12_inksState_2 S a0 x1 x2 Q n) h x3 := hw
    unfold wX12_inksState_2b at hw
    refine g_iload_n O dX12_inksState_2 rfl ?_
    refine g_aload_n O dX12_inksState_3 rfl ?_
    obtain ⟨c4, hw⟩ := hw
    refine gf_X12_varMany O dX12_inksState_4 fl_X12_27 c4 ?_
    refine g_iload_n O dX12_inksState_7 rfl ?_
    obtain ⟨c8, hw⟩ := hw
    refine g_iaload O dX12_inksState_8 c8.1 c8.2 ?_
    refine g_icmp_ge (tgt := 91) O dX12_inksState_9 rfl (fun q9 => ?_) (fun q9 => ?_)
    · have hw := hw.1 q9
      exact g_return O dX12_inksState_91 ⟨rfl, rfl, rfl, hw⟩
    · have hw := hw.2 q9
      refine g_iconst O dX12_inksState_12 kv_0 ?_
      refine g_istore (lc' := [some (vr a0), some (vi x1), some (vi x2), some (vi x3), some (vi (0 : Int32))]) O dX12_inksState_13 rfl (Nat.le_of_ble_eq_true rfl) rfl ?_
      obtain ⟨n15, hw⟩ := hw
      exact okX12_inksState_15 O hB2 n15 _ _ hw
theorem okX12_inksState {E : Ev} {S : Sh} {Z : Option Nat} {Q : Hp → Prop} {h : Hp} {a0 : Nat} {x1 : Int32} {x2 : Int32} (hw : wX12_inksState S h a0 x1 x2 Q) : Ct E yX12_inksState cX12_inksState 5 none 9 306 0 0 S Z h [vr a0, vi x1, vi x2] (qV S Z Q) := by
  refine Ct.of (by decide) (lc := [some (vr a0), some (vi x1), some (vi x2), none, none]) (Nat.le_of_ble_eq_true rfl) rfl (fun X O => ?_)
  unfold wX12_inksState at hw
  refine g_iconst O dX12_inksState_0 kv_0 ?_
  refine g_istore_n (lc' := [some (vr a0), some (vi x1), some (vi x2), some (vi (0 : Int32)), none]) O dX12_inksState_1 rfl (Nat.le_of_ble_eq_true rfl) rfl ?_
  obtain ⟨n2, hw⟩ := hw
  exact okX12_inksState_2 O n2 _ _ hw
theorem dX12_wordOf_0 : decode cX12_wordOf 0 = .ok (.lconst 0, 1) := by decide +kernel
theorem dX12_wordOf_1 : decode cX12_wordOf 1 = .ok (.lstore_n 1, 1) := by decide +kernel
theorem dX12_wordOf_2 : decode cX12_wordOf 2 = .ok (.iconst 0, 1) := by decide +kernel
theorem dX12_wordOf_3 : decode cX12_wordOf 3 = .ok (.istore_n 3, 1) := by decide +kernel
theorem dX12_wordOf_4 : decode cX12_wordOf 4 = .ok (.iload_n 3, 1) := by decide +kernel
theorem dX12_wordOf_5 : decode cX12_wordOf 5 = .ok (.aload_n 0, 1) := by decide +kernel
theorem dX12_wordOf_6 : decode cX12_wordOf 6 = .ok (.invokevirtual 176, 3) := by decide +kernel
theorem dX12_wordOf_9 : decode cX12_wordOf 9 = .ok (.if_icmp .ge 28, 3) := by decide +kernel
theorem dX12_wordOf_12 : decode cX12_wordOf 12 = .ok (.lload_n 1, 1) := by decide +kernel
theorem dX12_wordOf_13 : decode cX12_wordOf 13 = .ok (.ldc2_w 160, 3) := by decide +kernel
theorem dX12_wordOf_16 : decode cX12_wordOf 16 = .ok (.lmul, 1) := by decide +kernel
theorem dX12_wordOf_17 : decode cX12_wordOf 17 = .ok (.aload_n 0, 1) := by decide +kernel
theorem dX12_wordOf_18 : decode cX12_wordOf 18 = .ok (.iload_n 3, 1) := by decide +kernel
theorem dX12_wordOf_19 : decode cX12_wordOf 19 = .ok (.invokevirtual 182, 3) := by decide +kernel
theorem dX12_wordOf_22 : decode cX12_wordOf 22 = .ok (.i2l, 1) := by decide +kernel
theorem dX12_wordOf_23 : decode cX12_wordOf 23 = .ok (.ladd, 1) := by decide +kernel
theorem dX12_wordOf_24 : decode cX12_wordOf 24 = .ok (.ldc2_w 162, 3) := by decide +kernel
theorem dX12_wordOf_27 : decode cX12_wordOf 27 = .ok (.lsub, 1) := by decide +kernel
theorem dX12_wordOf_28 : decode cX12_wordOf 28 = .ok (.lconst 1, 1) := by decide +kernel
theorem dX12_wordOf_29 : decode cX12_wordOf 29 = .ok (.ladd, 1) := by decide +kernel
theorem dX12_wordOf_30 : decode cX12_wordOf 30 = .ok (.lstore_n 1, 1) := by decide +kernel
theorem dX12_wordOf_31 : decode cX12_wordOf 31 = .ok (.iinc 3 1, 3) := by decide +kernel
theorem dX12_wordOf_34 : decode cX12_wordOf 34 = .ok (.goto (-30), 3) := by decide +kernel
theorem dX12_wordOf_37 : decode cX12_wordOf 37 = .ok (.lload_n 1, 1) := by decide +kernel
theorem dX12_wordOf_38 : decode cX12_wordOf 38 = .ok (.lreturn, 1) := by decide +kernel
theorem okX12_wordOf_4 {E : Ev} {X : Cx} {S : Sh} {Z : Option Nat} {Q : Int64 → Hp → Prop} {a0 : Nat} (O : Ok E X yX12_wordOf cX12_wordOf 4 (some .long) 7 281 0 0 (qJ S Z Q)) : ∀ (n : Nat) (h : Hp) (j1 : Int64) (x3 : Int32), wX12_wordOf_4 S (fun i => E.2.2.2.2.1 i + 1) a0 Q n h j1 x3 → G E X 0 0 S Z h 4 [some (vr a0), some (vj j1), none, some (vi x3)] [] := by
  intro n
  induction n with
  | zero => intro h j1 x3 hw; exact hw.elim
  | succ n hB4 =>
    intro h j1 x3 hw
    have hw : wX12_wordOf_4b S (fun i => E.2.2.2.2.1 i + 1) a0 Q (wX12_wordOf_4 S (fun i => E.2.2.2.2.1 i + 1) a0 Q n) h j1 x3 := hw
    unfold wX12_wordOf_4b at hw
    refine g_iload_n O dX12_wordOf_4 rfl ?_
    refine g_aload_n O dX12_wordOf_5 rfl ?_
    refine g_callStr (As := []) (rest := [vi x3]) O dX12_wordOf_6 ml_X12_176 im_yJ0_length_8abf5 se_yJ0_length_8abf5 ini_J0 co_yJ0_length_8abf5 yo_yJ0_length_8abf5 (okJ0_length_8abf5_i hw) rfl rfl (Nat.le_of_ble_eq_true rfl) ⟨by decide, by decide, by decide, by decide⟩ (okJ0_length_8abf5 hw) (k_I fun r6 h6 hw => ?_)
    refine g_icmp_ge (tgt := 37) O dX12_wordOf_9 rfl (fun q9 => ?_) (fun q9 => ?_)
    · have hw := hw.1 q9
      refine g_lload_n O dX12_wordOf_37 rfl ?_
      exact g_lreturn O dX12_wordOf_38 ⟨rfl, rfl, _, rfl, hw⟩
    · have hw := hw.2 q9
      refine g_lload_n O dX12_wordOf_12 rfl ?_
      refine g_ldc2 O dX12_wordOf_13 kl_X12_160 ?_
      refine g_lmul O dX12_wordOf_16 ?_
      refine g_aload_n O dX12_wordOf_17 rfl ?_
      refine g_iload_n O dX12_wordOf_18 rfl ?_
      refine g_callStr (As := [vi x3]) (rest := [vj ((j1 * (32 : Int64)))]) O dX12_wordOf_19 ml_X12_182 im_yJ0_charAt_5068e se_yJ0_charAt_5068e ini_J0 co_yJ0_charAt_5068e yo_yJ0_charAt_5068e (okJ0_charAt_5068e_i hw) rfl rfl (Nat.le_of_ble_eq_true rfl) ⟨by decide, by decide, by decide, by decide⟩ (okJ0_charAt_5068e hw) (k_I fun r19 h19 hw => ?_)
      refine g_i2l O dX12_wordOf_22 ?_
      refine g_ladd O dX12_wordOf_23 ?_
      refine g_ldc2 O dX12_wordOf_24 kl_X12_162 ?_
      refine g_lsub O dX12_wordOf_27 ?_
      refine g_lconst O dX12_wordOf_28 kl_1 ?_
      refine g_ladd O dX12_wordOf_29 ?_
      refine g_nmJ (fun jv30 e30 => ?_)
      have hw := hw jv30 e30
      refine g_lstore_n (lc' := [some (vr a0), some (vj jv30), none, some (vi x3)]) O dX12_wordOf_30 rfl (Nat.le_of_ble_eq_true rfl) rfl ?_
      refine g_iinc (lc' := [some (vr a0), some (vj jv30), none, some (vi (x3 + (1 : Int32)))]) O dX12_wordOf_31 rfl kv_1 rfl rfl ?_
      refine g_goto (tgt := 4) O dX12_wordOf_34 rfl ?_
      exact hB4 _ _ _ hw
theorem okX12_wordOf {E : Ev} {S : Sh} {Z : Option Nat} {Q : Int64 → Hp → Prop} {h : Hp} {a0 : Nat} (hw : wX12_wordOf S (fun i => E.2.2.2.2.1 i + 1) h a0 Q) : Ct E yX12_wordOf cX12_wordOf 4 (some .long) 7 281 0 0 S Z h [vr a0] (qJ S Z Q) := by
  refine Ct.of (by decide) (lc := [some (vr a0), none, none, none]) (Nat.le_of_ble_eq_true rfl) rfl (fun X O => ?_)
  unfold wX12_wordOf at hw
  refine g_lconst O dX12_wordOf_0 kl_0 ?_
  refine g_lstore_n (lc' := [some (vr a0), some (vj (0 : Int64)), none, none]) O dX12_wordOf_1 rfl (Nat.le_of_ble_eq_true rfl) rfl ?_
  refine g_iconst O dX12_wordOf_2 kv_0 ?_
  refine g_istore_n (lc' := [some (vr a0), some (vj (0 : Int64)), none, some (vi (0 : Int32))]) O dX12_wordOf_3 rfl (Nat.le_of_ble_eq_true rfl) rfl ?_
  obtain ⟨n4, hw⟩ := hw
  exact okX12_wordOf_4 O n4 _ _ _ hw
theorem dX12_isWord_0 : decode cX12_isWord 0 = .ok (.aload_n 0, 1) := by decide +kernel
theorem dX12_isWord_1 : decode cX12_isWord 1 = .ok (.getfield 130, 3) := by decide +kernel
theorem dX12_isWord_4 : decode cX12_isWord 4 = .ok (.ifCond .ne 27, 3) := by decide +kernel
theorem dX12_isWord_7 : decode cX12_isWord 7 = .ok (.aload_n 0, 1) := by decide +kernel
theorem dX12_isWord_8 : decode cX12_isWord 8 = .ok (.getfield 149, 3) := by decide +kernel
theorem dX12_isWord_11 : decode cX12_isWord 11 = .ok (.iconst 2, 1) := by decide +kernel
theorem dX12_isWord_12 : decode cX12_isWord 12 = .ok (.if_icmp .ne 19, 3) := by decide +kernel
theorem dX12_isWord_15 : decode cX12_isWord 15 = .ok (.aload_n 0, 1) := by decide +kernel
theorem dX12_isWord_16 : decode cX12_isWord 16 = .ok (.getfield 156, 3) := by decide +kernel
theorem dX12_isWord_19 : decode cX12_isWord 19 = .ok (.aload_n 1, 1) := by decide +kernel
theorem dX12_isWord_20 : decode cX12_isWord 20 = .ok (.invokestatic 186, 3) := by decide +kernel
theorem dX12_isWord_23 : decode cX12_isWord 23 = .ok (.lcmp, 1) := by decide +kernel
theorem dX12_isWord_24 : decode cX12_isWord 24 = .ok (.ifCond .ne 7, 3) := by decide +kernel
theorem dX12_isWord_27 : decode cX12_isWord 27 = .ok (.iconst 1, 1) := by decide +kernel
theorem dX12_isWord_28 : decode cX12_isWord 28 = .ok (.goto 4, 3) := by decide +kernel
theorem dX12_isWord_31 : decode cX12_isWord 31 = .ok (.iconst 0, 1) := by decide +kernel
theorem dX12_isWord_32 : decode cX12_isWord 32 = .ok (.ireturn, 1) := by decide +kernel
theorem okX12_isWord {E : Ev} {S : Sh} {Z : Option Nat} {Q : Int32 → Hp → Prop} {h : Hp} {a0 : Nat} {a1 : Nat} (hw : wX12_isWord S (fun i => E.2.2.2.2.1 i + 1) h a0 a1 Q) : Ct E yX12_isWord cX12_isWord 2 (some .boolean) 8 304 0 0 S Z h [vr a0, vr a1] (qI S Z Q) := by
  refine Ct.of (by decide) (lc := [some (vr a0), some (vr a1)]) (Nat.le_of_ble_eq_true rfl) rfl (fun X O => ?_)
  unfold wX12_isWord at hw
  refine g_aload_n O dX12_isWord_0 rfl ?_
  obtain ⟨c1, hw⟩ := hw
  refine gf_X12_fault O dX12_isWord_1 fl_X12_130 c1 ?_
  refine g_if_ne (tgt := 31) O dX12_isWord_4 rfl (fun q4 => ?_) (fun q4 => ?_)
  · have hw := hw.1 q4
    refine g_iconst O dX12_isWord_31 kv_0 ?_
    exact g_zreturn O dX12_isWord_32 (by decide) ⟨rfl, rfl, _, rfl, hw⟩
  · have hw := hw.2 q4
    refine g_aload_n O dX12_isWord_7 rfl ?_
    refine gf_X12_token O dX12_isWord_8 fl_X12_149 c1 ?_
    refine g_iconst O dX12_isWord_11 kv_2 ?_
    refine g_icmp_ne (tgt := 31) O dX12_isWord_12 rfl (fun q12 => ?_) (fun q12 => ?_)
    · have hw := hw.1 q12
      refine g_iconst O dX12_isWord_31 kv_0 ?_
      exact g_zreturn O dX12_isWord_32 (by decide) ⟨rfl, rfl, _, rfl, hw⟩
    · have hw := hw.2 q12
      refine g_aload_n O dX12_isWord_15 rfl ?_
      refine gf_X12_word O dX12_isWord_16 fl_X12_156 c1 ?_
      refine g_aload_n O dX12_isWord_19 rfl ?_
      refine g_callS (As := [vr a1]) (rest := [vj (gJ h a0 13)]) O dX12_isWord_20 ml_X12_186 st_yX12_wordOf ini_X12 co_yX12_wordOf yo_yX12_wordOf rfl rfl (Nat.le_of_ble_eq_true rfl) ⟨by decide, by decide, by decide, by decide⟩ (okX12_wordOf hw) (k_J fun r20 h20 hw => ?_)
      refine g_lcmp O dX12_isWord_23 ?_
      refine g_if_ne (tgt := 31) O dX12_isWord_24 rfl (fun q24 => ?_) (fun q24 => ?_)
      · have hw := hw.1 q24
        refine g_iconst O dX12_isWord_31 kv_0 ?_
        exact g_zreturn O dX12_isWord_32 (by decide) ⟨rfl, rfl, _, rfl, hw⟩
      · have hw := hw.2 q24
        refine g_iconst O dX12_isWord_27 kv_1 ?_
        refine g_goto (tgt := 32) O dX12_isWord_28 rfl ?_
        exact g_zreturn O dX12_isWord_32 (by decide) ⟨rfl, rfl, _, rfl, hw⟩
theorem dX12_isOwn_0 : decode cX12_isOwn 0 = .ok (.aload_n 0, 1) := by decide +kernel
theorem dX12_isOwn_1 : decode cX12_isOwn 1 = .ok (.ldc 204, 2) := by decide +kernel
theorem dX12_isOwn_3 : decode cX12_isOwn 3 = .ok (.invokevirtual 190, 3) := by decide +kernel
theorem dX12_isOwn_6 : decode cX12_isOwn 6 = .ok (.ifCond .ne 66, 3) := by decide +kernel
theorem dX12_isOwn_9 : decode cX12_isOwn 9 = .ok (.aload_n 0, 1) := by decide +kernel
theorem dX12_isOwn_10 : decode cX12_isOwn 10 = .ok (.ldc 206, 2) := by decide +kernel
theorem dX12_isOwn_12 : decode cX12_isOwn 12 = .ok (.invokevirtual 190, 3) := by decide +kernel
theorem dX12_isOwn_15 : decode cX12_isOwn 15 = .ok (.ifCond .ne 57, 3) := by decide +kernel
theorem dX12_isOwn_18 : decode cX12_isOwn 18 = .ok (.aload_n 0, 1) := by decide +kernel
theorem dX12_isOwn_19 : decode cX12_isOwn 19 = .ok (.ldc 208, 2) := by decide +kernel
theorem dX12_isOwn_21 : decode cX12_isOwn 21 = .ok (.invokevirtual 190, 3) := by decide +kernel
theorem dX12_isOwn_24 : decode cX12_isOwn 24 = .ok (.ifCond .ne 48, 3) := by decide +kernel
theorem dX12_isOwn_27 : decode cX12_isOwn 27 = .ok (.aload_n 0, 1) := by decide +kernel
theorem dX12_isOwn_28 : decode cX12_isOwn 28 = .ok (.ldc 210, 2) := by decide +kernel
theorem dX12_isOwn_30 : decode cX12_isOwn 30 = .ok (.invokevirtual 190, 3) := by decide +kernel
theorem dX12_isOwn_33 : decode cX12_isOwn 33 = .ok (.ifCond .ne 39, 3) := by decide +kernel
theorem dX12_isOwn_36 : decode cX12_isOwn 36 = .ok (.aload_n 0, 1) := by decide +kernel
theorem dX12_isOwn_37 : decode cX12_isOwn 37 = .ok (.ldc 212, 2) := by decide +kernel
theorem dX12_isOwn_39 : decode cX12_isOwn 39 = .ok (.invokevirtual 190, 3) := by decide +kernel
theorem dX12_isOwn_42 : decode cX12_isOwn 42 = .ok (.ifCond .ne 30, 3) := by decide +kernel
theorem dX12_isOwn_45 : decode cX12_isOwn 45 = .ok (.aload_n 0, 1) := by decide +kernel
theorem dX12_isOwn_46 : decode cX12_isOwn 46 = .ok (.ldc 213, 2) := by decide +kernel
theorem dX12_isOwn_48 : decode cX12_isOwn 48 = .ok (.invokevirtual 190, 3) := by decide +kernel
theorem dX12_isOwn_51 : decode cX12_isOwn 51 = .ok (.ifCond .ne 21, 3) := by decide +kernel
theorem dX12_isOwn_54 : decode cX12_isOwn 54 = .ok (.aload_n 0, 1) := by decide +kernel
theorem dX12_isOwn_55 : decode cX12_isOwn 55 = .ok (.ldc 215, 2) := by decide +kernel
theorem dX12_isOwn_57 : decode cX12_isOwn 57 = .ok (.invokevirtual 190, 3) := by decide +kernel
theorem dX12_isOwn_60 : decode cX12_isOwn 60 = .ok (.ifCond .ne 12, 3) := by decide +kernel
theorem dX12_isOwn_63 : decode cX12_isOwn 63 = .ok (.aload_n 0, 1) := by decide +kernel
theorem dX12_isOwn_64 : decode cX12_isOwn 64 = .ok (.ldc 217, 2) := by decide +kernel
theorem dX12_isOwn_66 : decode cX12_isOwn 66 = .ok (.invokevirtual 190, 3) := by decide +kernel
theorem dX12_isOwn_69 : decode cX12_isOwn 69 = .ok (.ifCond .eq 7, 3) := by decide +kernel
theorem dX12_isOwn_72 : decode cX12_isOwn 72 = .ok (.iconst 1, 1) := by decide +kernel
theorem dX12_isOwn_73 : decode cX12_isOwn 73 = .ok (.goto 4, 3) := by decide +kernel
theorem dX12_isOwn_76 : decode cX12_isOwn 76 = .ok (.iconst 0, 1) := by decide +kernel
theorem dX12_isOwn_77 : decode cX12_isOwn 77 = .ok (.istore_n 1, 1) := by decide +kernel
theorem dX12_isOwn_78 : decode cX12_isOwn 78 = .ok (.iload_n 1, 1) := by decide +kernel
theorem dX12_isOwn_79 : decode cX12_isOwn 79 = .ok (.ifCond .ne 75, 3) := by decide +kernel
theorem dX12_isOwn_82 : decode cX12_isOwn 82 = .ok (.aload_n 0, 1) := by decide +kernel
theorem dX12_isOwn_83 : decode cX12_isOwn 83 = .ok (.ldc 219, 2) := by decide +kernel
theorem dX12_isOwn_85 : decode cX12_isOwn 85 = .ok (.invokevirtual 190, 3) := by decide +kernel
theorem dX12_isOwn_88 : decode cX12_isOwn 88 = .ok (.ifCond .ne 66, 3) := by decide +kernel
theorem dX12_isOwn_91 : decode cX12_isOwn 91 = .ok (.aload_n 0, 1) := by decide +kernel
theorem dX12_isOwn_92 : decode cX12_isOwn 92 = .ok (.ldc 221, 2) := by decide +kernel
theorem dX12_isOwn_94 : decode cX12_isOwn 94 = .ok (.invokevirtual 190, 3) := by decide +kernel
theorem dX12_isOwn_97 : decode cX12_isOwn 97 = .ok (.ifCond .ne 57, 3) := by decide +kernel
theorem dX12_isOwn_100 : decode cX12_isOwn 100 = .ok (.aload_n 0, 1) := by decide +kernel
theorem dX12_isOwn_101 : decode cX12_isOwn 101 = .ok (.ldc 223, 2) := by decide +kernel
theorem dX12_isOwn_103 : decode cX12_isOwn 103 = .ok (.invokevirtual 190, 3) := by decide +kernel
theorem dX12_isOwn_106 : decode cX12_isOwn 106 = .ok (.ifCond .ne 48, 3) := by decide +kernel
theorem dX12_isOwn_109 : decode cX12_isOwn 109 = .ok (.aload_n 0, 1) := by decide +kernel
theorem dX12_isOwn_110 : decode cX12_isOwn 110 = .ok (.ldc 225, 2) := by decide +kernel
theorem dX12_isOwn_112 : decode cX12_isOwn 112 = .ok (.invokevirtual 190, 3) := by decide +kernel
theorem dX12_isOwn_115 : decode cX12_isOwn 115 = .ok (.ifCond .ne 39, 3) := by decide +kernel
theorem dX12_isOwn_118 : decode cX12_isOwn 118 = .ok (.aload_n 0, 1) := by decide +kernel
theorem dX12_isOwn_119 : decode cX12_isOwn 119 = .ok (.ldc 227, 2) := by decide +kernel
theorem dX12_isOwn_121 : decode cX12_isOwn 121 = .ok (.invokevirtual 190, 3) := by decide +kernel
theorem dX12_isOwn_124 : decode cX12_isOwn 124 = .ok (.ifCond .ne 30, 3) := by decide +kernel
theorem dX12_isOwn_127 : decode cX12_isOwn 127 = .ok (.aload_n 0, 1) := by decide +kernel
theorem dX12_isOwn_128 : decode cX12_isOwn 128 = .ok (.ldc 229, 2) := by decide +kernel
theorem dX12_isOwn_130 : decode cX12_isOwn 130 = .ok (.invokevirtual 190, 3) := by decide +kernel
theorem dX12_isOwn_133 : decode cX12_isOwn 133 = .ok (.ifCond .ne 21, 3) := by decide +kernel
theorem dX12_isOwn_136 : decode cX12_isOwn 136 = .ok (.aload_n 0, 1) := by decide +kernel
theorem dX12_isOwn_137 : decode cX12_isOwn 137 = .ok (.ldc 231, 2) := by decide +kernel
theorem dX12_isOwn_139 : decode cX12_isOwn 139 = .ok (.invokevirtual 190, 3) := by decide +kernel
theorem dX12_isOwn_142 : decode cX12_isOwn 142 = .ok (.ifCond .ne 12, 3) := by decide +kernel
theorem dX12_isOwn_145 : decode cX12_isOwn 145 = .ok (.aload_n 0, 1) := by decide +kernel
theorem dX12_isOwn_146 : decode cX12_isOwn 146 = .ok (.ldc 233, 2) := by decide +kernel
theorem dX12_isOwn_148 : decode cX12_isOwn 148 = .ok (.invokevirtual 190, 3) := by decide +kernel
theorem dX12_isOwn_151 : decode cX12_isOwn 151 = .ok (.ifCond .eq 7, 3) := by decide +kernel
theorem dX12_isOwn_154 : decode cX12_isOwn 154 = .ok (.iconst 1, 1) := by decide +kernel
theorem dX12_isOwn_155 : decode cX12_isOwn 155 = .ok (.goto 4, 3) := by decide +kernel
theorem dX12_isOwn_158 : decode cX12_isOwn 158 = .ok (.iconst 0, 1) := by decide +kernel
theorem dX12_isOwn_159 : decode cX12_isOwn 159 = .ok (.ireturn, 1) := by decide +kernel
theorem okX12_isOwn_j154 {E : Ev} {X : Cx} {S : Sh} {Z : Option Nat} {Q : Int32 → Hp → Prop} {h : Hp} (O : Ok E X yX12_isOwn cX12_isOwn 2 (some .boolean) 9 325 0 0 (qI S Z Q)) (hw : wX12_isOwn_j154 S (fun i => E.2.2.2.2.1 i + 1) h Q) : G E X 0 0 S Z h 154 [none, none] [] := by
  unfold wX12_isOwn_j154 at hw
  refine g_iconst O dX12_isOwn_154 kv_1 ?_
  refine g_goto (tgt := 159) O dX12_isOwn_155 rfl ?_
  exact g_zreturn O dX12_isOwn_159 (by decide) ⟨rfl, rfl, _, rfl, hw⟩
theorem okX12_isOwn_j77 {E : Ev} {X : Cx} {S : Sh} {Z : Option Nat} {Q : Int32 → Hp → Prop} {h : Hp} {a0 : Nat} {s0 : Int32} (O : Ok E X yX12_isOwn cX12_isOwn 2 (some .boolean) 9 325 0 0 (qI S Z Q)) (hw : wX12_isOwn_j77 S (fun i => E.2.2.2.2.1 i + 1) h a0 s0 Q) : G E X 0 0 S Z h 77 [some (vr a0), none] [vi s0] := by
  unfold wX12_isOwn_j77 at hw
  refine g_istore_n (lc' := [some (vr a0), some (vi s0)]) O dX12_isOwn_77 rfl (Nat.le_of_ble_eq_true rfl) rfl ?_
  refine g_iload_n O dX12_isOwn_78 rfl ?_
  refine g_if_ne (tgt := 154) O dX12_isOwn_79 rfl (fun q79 => ?_) (fun q79 => ?_)
  · have hw := hw.1 q79
    refine g_mask [false, false] rfl rfl ?_
    exact okX12_isOwn_j154 O hw
  · have hw := hw.2 q79
    refine g_aload_n O dX12_isOwn_82 rfl ?_
    refine g_ldcS (i := 10) O dX12_isOwn_83 rfl rfl rfl ?_
    obtain ⟨c85, hw⟩ := hw
    refine g_callV (As := [vr (E.2.2.2.2.1 10 + 1)]) (rest := []) O ci_12 rfl dX12_isOwn_85 ml_X12_190 im_yX12_isWord se_yX12_isWord ini_X12 co_yX12_isWord yo_yX12_isWord c85 rfl rfl (Nat.le_of_ble_eq_true rfl) ⟨by decide, by decide, by decide, by decide⟩ (okX12_isWord hw) (k_I fun r85 h85 hw => ?_)
    refine g_if_ne (tgt := 154) O dX12_isOwn_88 rfl (fun q88 => ?_) (fun q88 => ?_)
    · have hw := hw.1 q88
      refine g_mask [false, false] rfl rfl ?_
      exact okX12_isOwn_j154 O hw
    · have hw := hw.2 q88
      refine g_aload_n O dX12_isOwn_91 rfl ?_
      refine g_ldcS (i := 11) O dX12_isOwn_92 rfl rfl rfl ?_
      refine g_callV (As := [vr (E.2.2.2.2.1 11 + 1)]) (rest := []) O ci_12 rfl dX12_isOwn_94 ml_X12_190 im_yX12_isWord se_yX12_isWord ini_X12 co_yX12_isWord yo_yX12_isWord c85 rfl rfl (Nat.le_of_ble_eq_true rfl) ⟨by decide, by decide, by decide, by decide⟩ (okX12_isWord hw) (k_I fun r94 h94 hw => ?_)
      refine g_if_ne (tgt := 154) O dX12_isOwn_97 rfl (fun q97 => ?_) (fun q97 => ?_)
      · have hw := hw.1 q97
        refine g_mask [false, false] rfl rfl ?_
        exact okX12_isOwn_j154 O hw
      · have hw := hw.2 q97
        refine g_aload_n O dX12_isOwn_100 rfl ?_
        refine g_ldcS (i := 12) O dX12_isOwn_101 rfl rfl rfl ?_
        refine g_callV (As := [vr (E.2.2.2.2.1 12 + 1)]) (rest := []) O ci_12 rfl dX12_isOwn_103 ml_X12_190 im_yX12_isWord se_yX12_isWord ini_X12 co_yX12_isWord yo_yX12_isWord c85 rfl rfl (Nat.le_of_ble_eq_true rfl) ⟨by decide, by decide, by decide, by decide⟩ (okX12_isWord hw) (k_I fun r103 h103 hw => ?_)
        refine g_if_ne (tgt := 154) O dX12_isOwn_106 rfl (fun q106 => ?_) (fun q106 => ?_)
        · have hw := hw.1 q106
          refine g_mask [false, false] rfl rfl ?_
          exact okX12_isOwn_j154 O hw
        · have hw := hw.2 q106
          refine g_aload_n O dX12_isOwn_109 rfl ?_
          refine g_ldcS (i := 13) O dX12_isOwn_110 rfl rfl rfl ?_
          refine g_callV (As := [vr (E.2.2.2.2.1 13 + 1)]) (rest := []) O ci_12 rfl dX12_isOwn_112 ml_X12_190 im_yX12_isWord se_yX12_isWord ini_X12 co_yX12_isWord yo_yX12_isWord c85 rfl rfl (Nat.le_of_ble_eq_true rfl) ⟨by decide, by decide, by decide, by decide⟩ (okX12_isWord hw) (k_I fun r112 h112 hw => ?_)
          refine g_if_ne (tgt := 154) O dX12_isOwn_115 rfl (fun q115 => ?_) (fun q115 => ?_)
          · have hw := hw.1 q115
            refine g_mask [false, false] rfl rfl ?_
            exact okX12_isOwn_j154 O hw
          · have hw := hw.2 q115
            refine g_aload_n O dX12_isOwn_118 rfl ?_
            refine g_ldcS (i := 14) O dX12_isOwn_119 rfl rfl rfl ?_
            refine g_callV (As := [vr (E.2.2.2.2.1 14 + 1)]) (rest := []) O ci_12 rfl dX12_isOwn_121 ml_X12_190 im_yX12_isWord se_yX12_isWord ini_X12 co_yX12_isWord yo_yX12_isWord c85 rfl rfl (Nat.le_of_ble_eq_true rfl) ⟨by decide, by decide, by decide, by decide⟩ (okX12_isWord hw) (k_I fun r121 h121 hw => ?_)
            refine g_if_ne (tgt := 154) O dX12_isOwn_124 rfl (fun q124 => ?_) (fun q124 => ?_)
            · have hw := hw.1 q124
              refine g_mask [false, false] rfl rfl ?_
              exact okX12_isOwn_j154 O hw
            · have hw := hw.2 q124
              refine g_aload_n O dX12_isOwn_127 rfl ?_
              refine g_ldcS (i := 15) O dX12_isOwn_128 rfl rfl rfl ?_
              refine g_callV (As := [vr (E.2.2.2.2.1 15 + 1)]) (rest := []) O ci_12 rfl dX12_isOwn_130 ml_X12_190 im_yX12_isWord se_yX12_isWord ini_X12 co_yX12_isWord yo_yX12_isWord c85 rfl rfl (Nat.le_of_ble_eq_true rfl) ⟨by decide, by decide, by decide, by decide⟩ (okX12_isWord hw) (k_I fun r130 h130 hw => ?_)
              refine g_if_ne (tgt := 154) O dX12_isOwn_133 rfl (fun q133 => ?_) (fun q133 => ?_)
              · have hw := hw.1 q133
                refine g_mask [false, false] rfl rfl ?_
                exact okX12_isOwn_j154 O hw
              · have hw := hw.2 q133
                refine g_aload_n O dX12_isOwn_136 rfl ?_
                refine g_ldcS (i := 16) O dX12_isOwn_137 rfl rfl rfl ?_
                refine g_callV (As := [vr (E.2.2.2.2.1 16 + 1)]) (rest := []) O ci_12 rfl dX12_isOwn_139 ml_X12_190 im_yX12_isWord se_yX12_isWord ini_X12 co_yX12_isWord yo_yX12_isWord c85 rfl rfl (Nat.le_of_ble_eq_true rfl) ⟨by decide, by decide, by decide, by decide⟩ (okX12_isWord hw) (k_I fun r139 h139 hw => ?_)
                refine g_if_ne (tgt := 154) O dX12_isOwn_142 rfl (fun q142 => ?_) (fun q142 => ?_)
                · have hw := hw.1 q142
                  refine g_mask [false, false] rfl rfl ?_
                  exact okX12_isOwn_j154 O hw
                · have hw := hw.2 q142
                  refine g_aload_n O dX12_isOwn_145 rfl ?_
                  refine g_ldcS (i := 17) O dX12_isOwn_146 rfl rfl rfl ?_
                  refine g_callV (As := [vr (E.2.2.2.2.1 17 + 1)]) (rest := []) O ci_12 rfl dX12_isOwn_148 ml_X12_190 im_yX12_isWord se_yX12_isWord ini_X12 co_yX12_isWord yo_yX12_isWord c85 rfl rfl (Nat.le_of_ble_eq_true rfl) ⟨by decide, by decide, by decide, by decide⟩ (okX12_isWord hw) (k_I fun r148 h148 hw => ?_)
                  refine g_if_eq (tgt := 158) O dX12_isOwn_151 rfl (fun q151 => ?_) (fun q151 => ?_)
                  · have hw := hw.1 q151
                    refine g_iconst O dX12_isOwn_158 kv_0 ?_
                    exact g_zreturn O dX12_isOwn_159 (by decide) ⟨rfl, rfl, _, rfl, hw⟩
                  · have hw := hw.2 q151
                    refine g_mask [false, false] rfl rfl ?_
                    exact okX12_isOwn_j154 O hw
theorem okX12_isOwn_j72 {E : Ev} {X : Cx} {S : Sh} {Z : Option Nat} {Q : Int32 → Hp → Prop} {h : Hp} {a0 : Nat} (O : Ok E X yX12_isOwn cX12_isOwn 2 (some .boolean) 9 325 0 0 (qI S Z Q)) (hw : wX12_isOwn_j72 S (fun i => E.2.2.2.2.1 i + 1) h a0 Q) : G E X 0 0 S Z h 72 [some (vr a0), none] [] := by
  unfold wX12_isOwn_j72 at hw
  refine g_iconst O dX12_isOwn_72 kv_1 ?_
  refine g_goto (tgt := 77) O dX12_isOwn_73 rfl ?_
  exact okX12_isOwn_j77 O hw
theorem okX12_isOwn {E : Ev} {S : Sh} {Z : Option Nat} {Q : Int32 → Hp → Prop} {h : Hp} {a0 : Nat} (hw : wX12_isOwn S (fun i => E.2.2.2.2.1 i + 1) h a0 Q) : Ct E yX12_isOwn cX12_isOwn 2 (some .boolean) 9 325 0 0 S Z h [vr a0] (qI S Z Q) := by
  refine Ct.of (by decide) (lc := [some (vr a0), none]) (Nat.le_of_ble_eq_true rfl) rfl (fun X O => ?_)
  unfold wX12_isOwn at hw
  refine g_aload_n O dX12_isOwn_0 rfl ?_
  refine g_ldcS (i := 2) O dX12_isOwn_1 rfl rfl rfl ?_
  obtain ⟨c3, hw⟩ := hw
  refine g_callV (As := [vr (E.2.2.2.2.1 2 + 1)]) (rest := []) O ci_12 rfl dX12_isOwn_3 ml_X12_190 im_yX12_isWord se_yX12_isWord ini_X12 co_yX12_isWord yo_yX12_isWord c3 rfl rfl (Nat.le_of_ble_eq_true rfl) ⟨by decide, by decide, by decide, by decide⟩ (okX12_isWord hw) (k_I fun r3 h3 hw => ?_)
  refine g_if_ne (tgt := 72) O dX12_isOwn_6 rfl (fun q6 => ?_) (fun q6 => ?_)
  · have hw := hw.1 q6
    exact okX12_isOwn_j72 O hw
  · have hw := hw.2 q6
    refine g_aload_n O dX12_isOwn_9 rfl ?_
    refine g_ldcS (i := 3) O dX12_isOwn_10 rfl rfl rfl ?_
    refine g_callV (As := [vr (E.2.2.2.2.1 3 + 1)]) (rest := []) O ci_12 rfl dX12_isOwn_12 ml_X12_190 im_yX12_isWord se_yX12_isWord ini_X12 co_yX12_isWord yo_yX12_isWord c3 rfl rfl (Nat.le_of_ble_eq_true rfl) ⟨by decide, by decide, by decide, by decide⟩ (okX12_isWord hw) (k_I fun r12 h12 hw => ?_)
    refine g_if_ne (tgt := 72) O dX12_isOwn_15 rfl (fun q15 => ?_) (fun q15 => ?_)
    · have hw := hw.1 q15
      exact okX12_isOwn_j72 O hw
    · have hw := hw.2 q15
      refine g_aload_n O dX12_isOwn_18 rfl ?_
      refine g_ldcS (i := 4) O dX12_isOwn_19 rfl rfl rfl ?_
      refine g_callV (As := [vr (E.2.2.2.2.1 4 + 1)]) (rest := []) O ci_12 rfl dX12_isOwn_21 ml_X12_190 im_yX12_isWord se_yX12_isWord ini_X12 co_yX12_isWord yo_yX12_isWord c3 rfl rfl (Nat.le_of_ble_eq_true rfl) ⟨by decide, by decide, by decide, by decide⟩ (okX12_isWord hw) (k_I fun r21 h21 hw => ?_)
      refine g_if_ne (tgt := 72) O dX12_isOwn_24 rfl (fun q24 => ?_) (fun q24 => ?_)
      · have hw := hw.1 q24
        exact okX12_isOwn_j72 O hw
      · have hw := hw.2 q24
        refine g_aload_n O dX12_isOwn_27 rfl ?_
        refine g_ldcS (i := 5) O dX12_isOwn_28 rfl rfl rfl ?_
        refine g_callV (As := [vr (E.2.2.2.2.1 5 + 1)]) (rest := []) O ci_12 rfl dX12_isOwn_30 ml_X12_190 im_yX12_isWord se_yX12_isWord ini_X12 co_yX12_isWord yo_yX12_isWord c3 rfl rfl (Nat.le_of_ble_eq_true rfl) ⟨by decide, by decide, by decide, by decide⟩ (okX12_isWord hw) (k_I fun r30 h30 hw => ?_)
        refine g_if_ne (tgt := 72) O dX12_isOwn_33 rfl (fun q33 => ?_) (fun q33 => ?_)
        · have hw := hw.1 q33
          exact okX12_isOwn_j72 O hw
        · have hw := hw.2 q33
          refine g_aload_n O dX12_isOwn_36 rfl ?_
          refine g_ldcS (i := 6) O dX12_isOwn_37 rfl rfl rfl ?_
          refine g_callV (As := [vr (E.2.2.2.2.1 6 + 1)]) (rest := []) O ci_12 rfl dX12_isOwn_39 ml_X12_190 im_yX12_isWord se_yX12_isWord ini_X12 co_yX12_isWord yo_yX12_isWord c3 rfl rfl (Nat.le_of_ble_eq_true rfl) ⟨by decide, by decide, by decide, by decide⟩ (okX12_isWord hw) (k_I fun r39 h39 hw => ?_)
          refine g_if_ne (tgt := 72) O dX12_isOwn_42 rfl (fun q42 => ?_) (fun q42 => ?_)
          · have hw := hw.1 q42
            exact okX12_isOwn_j72 O hw
          · have hw := hw.2 q42
            refine g_aload_n O dX12_isOwn_45 rfl ?_
            refine g_ldcS (i := 7) O dX12_isOwn_46 rfl rfl rfl ?_
            refine g_callV (As := [vr (E.2.2.2.2.1 7 + 1)]) (rest := []) O ci_12 rfl dX12_isOwn_48 ml_X12_190 im_yX12_isWord se_yX12_isWord ini_X12 co_yX12_isWord yo_yX12_isWord c3 rfl rfl (Nat.le_of_ble_eq_true rfl) ⟨by decide, by decide, by decide, by decide⟩ (okX12_isWord hw) (k_I fun r48 h48 hw => ?_)
            refine g_if_ne (tgt := 72) O dX12_isOwn_51 rfl (fun q51 => ?_) (fun q51 => ?_)
            · have hw := hw.1 q51
              exact okX12_isOwn_j72 O hw
            · have hw := hw.2 q51
              refine g_aload_n O dX12_isOwn_54 rfl ?_
              refine g_ldcS (i := 8) O dX12_isOwn_55 rfl rfl rfl ?_
              refine g_callV (As := [vr (E.2.2.2.2.1 8 + 1)]) (rest := []) O ci_12 rfl dX12_isOwn_57 ml_X12_190 im_yX12_isWord se_yX12_isWord ini_X12 co_yX12_isWord yo_yX12_isWord c3 rfl rfl (Nat.le_of_ble_eq_true rfl) ⟨by decide, by decide, by decide, by decide⟩ (okX12_isWord hw) (k_I fun r57 h57 hw => ?_)
              refine g_if_ne (tgt := 72) O dX12_isOwn_60 rfl (fun q60 => ?_) (fun q60 => ?_)
              · have hw := hw.1 q60
                exact okX12_isOwn_j72 O hw
              · have hw := hw.2 q60
                refine g_aload_n O dX12_isOwn_63 rfl ?_
                refine g_ldcS (i := 9) O dX12_isOwn_64 rfl rfl rfl ?_
                refine g_callV (As := [vr (E.2.2.2.2.1 9 + 1)]) (rest := []) O ci_12 rfl dX12_isOwn_66 ml_X12_190 im_yX12_isWord se_yX12_isWord ini_X12 co_yX12_isWord yo_yX12_isWord c3 rfl rfl (Nat.le_of_ble_eq_true rfl) ⟨by decide, by decide, by decide, by decide⟩ (okX12_isWord hw) (k_I fun r66 h66 hw => ?_)
                refine g_if_eq (tgt := 76) O dX12_isOwn_69 rfl (fun q69 => ?_) (fun q69 => ?_)
                · have hw := hw.1 q69
                  refine g_iconst O dX12_isOwn_76 kv_0 ?_
                  exact okX12_isOwn_j77 O hw
                · have hw := hw.2 q69
                  exact okX12_isOwn_j72 O hw
theorem dX12_isName_0 : decode cX12_isName 0 = .ok (.aload_n 0, 1) := by decide +kernel
theorem dX12_isName_1 : decode cX12_isName 1 = .ok (.getfield 130, 3) := by decide +kernel
theorem dX12_isName_4 : decode cX12_isName 4 = .ok (.ifCond .ne 22, 3) := by decide +kernel
theorem dX12_isName_7 : decode cX12_isName 7 = .ok (.aload_n 0, 1) := by decide +kernel
theorem dX12_isName_8 : decode cX12_isName 8 = .ok (.getfield 149, 3) := by decide +kernel
theorem dX12_isName_11 : decode cX12_isName 11 = .ok (.iconst 2, 1) := by decide +kernel
theorem dX12_isName_12 : decode cX12_isName 12 = .ok (.if_icmp .ne 14, 3) := by decide +kernel
theorem dX12_isName_15 : decode cX12_isName 15 = .ok (.aload_n 0, 1) := by decide +kernel
theorem dX12_isName_16 : decode cX12_isName 16 = .ok (.invokevirtual 235, 3) := by decide +kernel
theorem dX12_isName_19 : decode cX12_isName 19 = .ok (.ifCond .ne 7, 3) := by decide +kernel
theorem dX12_isName_22 : decode cX12_isName 22 = .ok (.iconst 1, 1) := by decide +kernel
theorem dX12_isName_23 : decode cX12_isName 23 = .ok (.goto 4, 3) := by decide +kernel
theorem dX12_isName_26 : decode cX12_isName 26 = .ok (.iconst 0, 1) := by decide +kernel
theorem dX12_isName_27 : decode cX12_isName 27 = .ok (.ireturn, 1) := by decide +kernel
theorem okX12_isName {E : Ev} {S : Sh} {Z : Option Nat} {Q : Int32 → Hp → Prop} {h : Hp} {a0 : Nat} (hw : wX12_isName S (fun i => E.2.2.2.2.1 i + 1) h a0 Q) : Ct E yX12_isName cX12_isName 1 (some .boolean) 10 346 0 0 S Z h [vr a0] (qI S Z Q) := by
  refine Ct.of (by decide) (lc := [some (vr a0)]) (Nat.le_of_ble_eq_true rfl) rfl (fun X O => ?_)
  unfold wX12_isName at hw
  refine g_aload_n O dX12_isName_0 rfl ?_
  obtain ⟨c1, hw⟩ := hw
  refine gf_X12_fault O dX12_isName_1 fl_X12_130 c1 ?_
  refine g_if_ne (tgt := 26) O dX12_isName_4 rfl (fun q4 => ?_) (fun q4 => ?_)
  · have hw := hw.1 q4
    refine g_iconst O dX12_isName_26 kv_0 ?_
    exact g_zreturn O dX12_isName_27 (by decide) ⟨rfl, rfl, _, rfl, hw⟩
  · have hw := hw.2 q4
    refine g_aload_n O dX12_isName_7 rfl ?_
    refine gf_X12_token O dX12_isName_8 fl_X12_149 c1 ?_
    refine g_iconst O dX12_isName_11 kv_2 ?_
    refine g_icmp_ne (tgt := 26) O dX12_isName_12 rfl (fun q12 => ?_) (fun q12 => ?_)
    · have hw := hw.1 q12
      refine g_iconst O dX12_isName_26 kv_0 ?_
      exact g_zreturn O dX12_isName_27 (by decide) ⟨rfl, rfl, _, rfl, hw⟩
    · have hw := hw.2 q12
      refine g_aload_n O dX12_isName_15 rfl ?_
      refine g_callV (As := []) (rest := []) O ci_12 rfl dX12_isName_16 ml_X12_235 im_yX12_isOwn se_yX12_isOwn ini_X12 co_yX12_isOwn yo_yX12_isOwn c1 rfl rfl (Nat.le_of_ble_eq_true rfl) ⟨by decide, by decide, by decide, by decide⟩ (okX12_isOwn hw) (k_I fun r16 h16 hw => ?_)
      refine g_if_ne (tgt := 26) O dX12_isName_19 rfl (fun q19 => ?_) (fun q19 => ?_)
      · have hw := hw.1 q19
        refine g_iconst O dX12_isName_26 kv_0 ?_
        exact g_zreturn O dX12_isName_27 (by decide) ⟨rfl, rfl, _, rfl, hw⟩
      · have hw := hw.2 q19
        refine g_iconst O dX12_isName_22 kv_1 ?_
        refine g_goto (tgt := 27) O dX12_isName_23 rfl ?_
        exact g_zreturn O dX12_isName_27 (by decide) ⟨rfl, rfl, _, rfl, hw⟩
theorem dX12_isSign_0 : decode cX12_isSign 0 = .ok (.aload_n 0, 1) := by decide +kernel
theorem dX12_isSign_1 : decode cX12_isSign 1 = .ok (.getfield 130, 3) := by decide +kernel
theorem dX12_isSign_4 : decode cX12_isSign 4 = .ok (.ifCond .ne 23, 3) := by decide +kernel
theorem dX12_isSign_7 : decode cX12_isSign 7 = .ok (.aload_n 0, 1) := by decide +kernel
theorem dX12_isSign_8 : decode cX12_isSign 8 = .ok (.getfield 149, 3) := by decide +kernel
theorem dX12_isSign_11 : decode cX12_isSign 11 = .ok (.iconst 4, 1) := by decide +kernel
theorem dX12_isSign_12 : decode cX12_isSign 12 = .ok (.if_icmp .ne 15, 3) := by decide +kernel
theorem dX12_isSign_15 : decode cX12_isSign 15 = .ok (.aload_n 0, 1) := by decide +kernel
theorem dX12_isSign_16 : decode cX12_isSign 16 = .ok (.getfield 170, 3) := by decide +kernel
theorem dX12_isSign_19 : decode cX12_isSign 19 = .ok (.iload_n 1, 1) := by decide +kernel
theorem dX12_isSign_20 : decode cX12_isSign 20 = .ok (.if_icmp .ne 7, 3) := by decide +kernel
theorem dX12_isSign_23 : decode cX12_isSign 23 = .ok (.iconst 1, 1) := by decide +kernel
theorem dX12_isSign_24 : decode cX12_isSign 24 = .ok (.goto 4, 3) := by decide +kernel
theorem dX12_isSign_27 : decode cX12_isSign 27 = .ok (.iconst 0, 1) := by decide +kernel
theorem dX12_isSign_28 : decode cX12_isSign 28 = .ok (.ireturn, 1) := by decide +kernel
theorem okX12_isSign {E : Ev} {S : Sh} {Z : Option Nat} {Q : Int32 → Hp → Prop} {h : Hp} {a0 : Nat} {x1 : Int32} (hw : wX12_isSign S h a0 x1 Q) : Ct E yX12_isSign cX12_isSign 2 (some .boolean) 1 24 0 0 S Z h [vr a0, vi x1] (qI S Z Q) := by
  refine Ct.of (by decide) (lc := [some (vr a0), some (vi x1)]) (Nat.le_of_ble_eq_true rfl) rfl (fun X O => ?_)
  unfold wX12_isSign at hw
  refine g_aload_n O dX12_isSign_0 rfl ?_
  obtain ⟨c1, hw⟩ := hw
  refine gf_X12_fault O dX12_isSign_1 fl_X12_130 c1 ?_
  refine g_if_ne (tgt := 27) O dX12_isSign_4 rfl (fun q4 => ?_) (fun q4 => ?_)
  · have hw := hw.1 q4
    refine g_iconst O dX12_isSign_27 kv_0 ?_
    exact g_zreturn O dX12_isSign_28 (by decide) ⟨rfl, rfl, _, rfl, hw⟩
  · have hw := hw.2 q4
    refine g_aload_n O dX12_isSign_7 rfl ?_
    refine gf_X12_token O dX12_isSign_8 fl_X12_149 c1 ?_
    refine g_iconst O dX12_isSign_11 kv_4 ?_
    refine g_icmp_ne (tgt := 27) O dX12_isSign_12 rfl (fun q12 => ?_) (fun q12 => ?_)
    · have hw := hw.1 q12
      refine g_iconst O dX12_isSign_27 kv_0 ?_
      exact g_zreturn O dX12_isSign_28 (by decide) ⟨rfl, rfl, _, rfl, hw⟩
    · have hw := hw.2 q12
      refine g_aload_n O dX12_isSign_15 rfl ?_
      refine gf_X12_sign O dX12_isSign_16 fl_X12_170 c1 ?_
      refine g_iload_n O dX12_isSign_19 rfl ?_
      refine g_icmp_ne (tgt := 27) O dX12_isSign_20 rfl (fun q20 => ?_) (fun q20 => ?_)
      · have hw := hw.1 q20
        refine g_iconst O dX12_isSign_27 kv_0 ?_
        exact g_zreturn O dX12_isSign_28 (by decide) ⟨rfl, rfl, _, rfl, hw⟩
      · have hw := hw.2 q20
        refine g_iconst O dX12_isSign_23 kv_1 ?_
        refine g_goto (tgt := 28) O dX12_isSign_24 rfl ?_
        exact g_zreturn O dX12_isSign_28 (by decide) ⟨rfl, rfl, _, rfl, hw⟩
theorem dX12_varOf_0 : decode cX12_varOf 0 = .ok (.iconst 0, 1) := by decide +kernel
theorem dX12_varOf_1 : decode cX12_varOf 1 = .ok (.istore 4, 2) := by decide +kernel
theorem dX12_varOf_3 : decode cX12_varOf 3 = .ok (.iload 4, 2) := by decide +kernel
theorem dX12_varOf_5 : decode cX12_varOf 5 = .ok (.aload_n 0, 1) := by decide +kernel
theorem dX12_varOf_6 : decode cX12_varOf 6 = .ok (.getfield 27, 3) := by decide +kernel
theorem dX12_varOf_9 : decode cX12_varOf 9 = .ok (.iload_n 1, 1) := by decide +kernel
theorem dX12_varOf_10 : decode cX12_varOf 10 = .ok (.iaload, 1) := by decide +kernel
theorem dX12_varOf_11 : decode cX12_varOf 11 = .ok (.if_icmp .ge 28, 3) := by decide +kernel
theorem dX12_varOf_14 : decode cX12_varOf 14 = .ok (.aload_n 0, 1) := by decide +kernel
theorem dX12_varOf_15 : decode cX12_varOf 15 = .ok (.getfield 21, 3) := by decide +kernel
theorem dX12_varOf_18 : decode cX12_varOf 18 = .ok (.iconst 3, 1) := by decide +kernel
theorem dX12_varOf_19 : decode cX12_varOf 19 = .ok (.iload_n 1, 1) := by decide +kernel
theorem dX12_varOf_20 : decode cX12_varOf 20 = .ok (.imul, 1) := by decide +kernel
theorem dX12_varOf_21 : decode cX12_varOf 21 = .ok (.iload 4, 2) := by decide +kernel
theorem dX12_varOf_23 : decode cX12_varOf 23 = .ok (.iadd, 1) := by decide +kernel
theorem dX12_varOf_24 : decode cX12_varOf 24 = .ok (.laload, 1) := by decide +kernel
theorem dX12_varOf_25 : decode cX12_varOf 25 = .ok (.lload_n 2, 1) := by decide +kernel
theorem dX12_varOf_26 : decode cX12_varOf 26 = .ok (.lcmp, 1) := by decide +kernel
theorem dX12_varOf_27 : decode cX12_varOf 27 = .ok (.ifCond .ne 6, 3) := by decide +kernel
theorem dX12_varOf_30 : decode cX12_varOf 30 = .ok (.iload 4, 2) := by decide +kernel
theorem dX12_varOf_32 : decode cX12_varOf 32 = .ok (.ireturn, 1) := by decide +kernel
theorem dX12_varOf_33 : decode cX12_varOf 33 = .ok (.iinc 4 1, 3) := by decide +kernel
theorem dX12_varOf_36 : decode cX12_varOf 36 = .ok (.goto (-33), 3) := by decide +kernel
theorem dX12_varOf_39 : decode cX12_varOf 39 = .ok (.iconst (-1), 1) := by decide +kernel
theorem dX12_varOf_40 : decode cX12_varOf 40 = .ok (.ireturn, 1) := by decide +kernel
theorem okX12_varOf_3 {E : Ev} {X : Cx} {S : Sh} {Z : Option Nat} {Q : Int32 → Hp → Prop} {a0 : Nat} {x1 : Int32} {j2 : Int64} (O : Ok E X yX12_varOf cX12_varOf 5 (some .int) 1 24 0 0 (qI S Z Q)) : ∀ (n : Nat) (h : Hp) (x4 : Int32), wX12_varOf_3 S a0 x1 j2 Q n h x4 → G E X 0 0 S Z h 3 [some (vr a0), some (vi x1), some (vj j2), none, some (vi x4)] [] := by
  intro n
  induction n with
  | zero => intro h x4 hw; exact hw.elim
  | succ n hB3 =>
    intro h x4 hw
    have hw : wX12_varOf_3b S a0 x1 j2 Q (wX12_varOf_3 S a0 x1 j2 Q n) h x4 := hw
    unfold wX12_varOf_3b at hw
    refine g_iload O dX12_varOf_3 rfl ?_
    refine g_aload_n O dX12_varOf_5 rfl ?_
    obtain ⟨c6, hw⟩ := hw
    refine gf_X12_varMany O dX12_varOf_6 fl_X12_27 c6 ?_
    refine g_iload_n O dX12_varOf_9 rfl ?_
    obtain ⟨c10, hw⟩ := hw
    refine g_iaload O dX12_varOf_10 c10.1 c10.2 ?_
    refine g_icmp_ge (tgt := 39) O dX12_varOf_11 rfl (fun q11 => ?_) (fun q11 => ?_)
    · have hw := hw.1 q11
      refine g_iconst O dX12_varOf_39 kv_m1 ?_
      exact g_ireturn O dX12_varOf_40 ⟨rfl, rfl, _, rfl, hw⟩
    · have hw := hw.2 q11
      refine g_aload_n O dX12_varOf_14 rfl ?_
      refine gf_X12_varName O dX12_varOf_15 fl_X12_21 c6 ?_
      refine g_iconst O dX12_varOf_18 kv_3 ?_
      refine g_iload_n O dX12_varOf_19 rfl ?_
      refine g_imul O dX12_varOf_20 ?_
      refine g_iload O dX12_varOf_21 rfl ?_
      refine g_iadd O dX12_varOf_23 ?_
      obtain ⟨c24, hw⟩ := hw
      refine g_laload O dX12_varOf_24 c24.1 c24.2 ?_
      refine g_lload_n O dX12_varOf_25 rfl ?_
      refine g_lcmp O dX12_varOf_26 ?_
      refine g_if_ne (tgt := 33) O dX12_varOf_27 rfl (fun q27 => ?_) (fun q27 => ?_)
      · have hw := hw.1 q27
        refine g_iinc (lc' := [some (vr a0), some (vi x1), some (vj j2), none, some (vi (x4 + (1 : Int32)))]) O dX12_varOf_33 rfl kv_1 rfl rfl ?_
        refine g_goto (tgt := 3) O dX12_varOf_36 rfl ?_
        exact hB3 _ _ hw
      · have hw := hw.2 q27
        refine g_iload O dX12_varOf_30 rfl ?_
        exact g_ireturn O dX12_varOf_32 ⟨rfl, rfl, _, rfl, hw⟩
theorem okX12_varOf {E : Ev} {S : Sh} {Z : Option Nat} {Q : Int32 → Hp → Prop} {h : Hp} {a0 : Nat} {x1 : Int32} {j2 : Int64} (hw : wX12_varOf S h a0 x1 j2 Q) : Ct E yX12_varOf cX12_varOf 5 (some .int) 1 24 0 0 S Z h [vr a0, vi x1, vj j2] (qI S Z Q) := by
  refine Ct.of (by decide) (lc := [some (vr a0), some (vi x1), some (vj j2), none, none]) (Nat.le_of_ble_eq_true rfl) rfl (fun X O => ?_)
  unfold wX12_varOf at hw
  refine g_iconst O dX12_varOf_0 kv_0 ?_
  refine g_istore (lc' := [some (vr a0), some (vi x1), some (vj j2), none, some (vi (0 : Int32))]) O dX12_varOf_1 rfl (Nat.le_of_ble_eq_true rfl) rfl ?_
  obtain ⟨n3, hw⟩ := hw
  exact okX12_varOf_3 O n3 _ _ hw
theorem dX12_isTold_0 : decode cX12_isTold 0 = .ok (.iconst 3, 1) := by decide +kernel
theorem dX12_isTold_1 : decode cX12_isTold 1 = .ok (.istore_n 3, 1) := by decide +kernel
theorem dX12_isTold_2 : decode cX12_isTold 2 = .ok (.iload_n 3, 1) := by decide +kernel
theorem dX12_isTold_3 : decode cX12_isTold 3 = .ok (.iconst 3, 1) := by decide +kernel
theorem dX12_isTold_4 : decode cX12_isTold 4 = .ok (.aload_n 0, 1) := by decide +kernel
theorem dX12_isTold_5 : decode cX12_isTold 5 = .ok (.getfield 252, 3) := by decide +kernel
theorem dX12_isTold_8 : decode cX12_isTold 8 = .ok (.iadd, 1) := by decide +kernel
theorem dX12_isTold_9 : decode cX12_isTold 9 = .ok (.if_icmp .ge 42, 3) := by decide +kernel
theorem dX12_isTold_12 : decode cX12_isTold 12 = .ok (.aload_n 0, 1) := by decide +kernel
theorem dX12_isTold_13 : decode cX12_isTold 13 = .ok (.getfield 17, 3) := by decide +kernel
theorem dX12_isTold_16 : decode cX12_isTold 16 = .ok (.iload_n 3, 1) := by decide +kernel
theorem dX12_isTold_17 : decode cX12_isTold 17 = .ok (.laload, 1) := by decide +kernel
theorem dX12_isTold_18 : decode cX12_isTold 18 = .ok (.lload_n 1, 1) := by decide +kernel
theorem dX12_isTold_19 : decode cX12_isTold 19 = .ok (.lcmp, 1) := by decide +kernel
theorem dX12_isTold_20 : decode cX12_isTold 20 = .ok (.ifCond .eq 23, 3) := by decide +kernel
theorem dX12_isTold_23 : decode cX12_isTold 23 = .ok (.aload_n 0, 1) := by decide +kernel
theorem dX12_isTold_24 : decode cX12_isTold 24 = .ok (.iload_n 3, 1) := by decide +kernel
theorem dX12_isTold_25 : decode cX12_isTold 25 = .ok (.lload_n 1, 1) := by decide +kernel
theorem dX12_isTold_26 : decode cX12_isTold 26 = .ok (.invokevirtual 255, 3) := by decide +kernel
theorem dX12_isTold_29 : decode cX12_isTold 29 = .ok (.iconst (-1), 1) := by decide +kernel
theorem dX12_isTold_30 : decode cX12_isTold 30 = .ok (.if_icmp .ne 13, 3) := by decide +kernel
theorem dX12_isTold_33 : decode cX12_isTold 33 = .ok (.aload_n 0, 1) := by decide +kernel
theorem dX12_isTold_34 : decode cX12_isTold 34 = .ok (.iload_n 3, 1) := by decide +kernel
theorem dX12_isTold_35 : decode cX12_isTold 35 = .ok (.lload_n 1, 1) := by decide +kernel
theorem dX12_isTold_36 : decode cX12_isTold 36 = .ok (.invokevirtual 299, 3) := by decide +kernel
theorem dX12_isTold_39 : decode cX12_isTold 39 = .ok (.iconst (-1), 1) := by decide +kernel
theorem dX12_isTold_40 : decode cX12_isTold 40 = .ok (.if_icmp .eq 5, 3) := by decide +kernel
theorem dX12_isTold_43 : decode cX12_isTold 43 = .ok (.iconst 1, 1) := by decide +kernel
theorem dX12_isTold_44 : decode cX12_isTold 44 = .ok (.ireturn, 1) := by decide +kernel
theorem dX12_isTold_45 : decode cX12_isTold 45 = .ok (.iinc 3 1, 3) := by decide +kernel
theorem dX12_isTold_48 : decode cX12_isTold 48 = .ok (.goto (-46), 3) := by decide +kernel
theorem dX12_isTold_51 : decode cX12_isTold 51 = .ok (.iconst 0, 1) := by decide +kernel
theorem dX12_isTold_52 : decode cX12_isTold 52 = .ok (.ireturn, 1) := by decide +kernel
theorem okX12_isTold_2 {E : Ev} {X : Cx} {S : Sh} {Z : Option Nat} {Q : Int32 → Hp → Prop} {a0 : Nat} {j1 : Int64} (O : Ok E X yX12_isTold cX12_isTold 4 (some .boolean) 2 48 0 0 (qI S Z Q)) : ∀ (n : Nat) (h : Hp) (x3 : Int32), wX12_isTold_2 S a0 j1 Q n h x3 → G E X 0 0 S Z h 2 [some (vr a0), some (vj j1), none, some (vi x3)] [] := by
  intro n
  induction n with
  | zero => intro h x3 hw; exact hw.elim
  | succ n hB2 =>
    intro h x3 hw
    have hw : wX12_isTold_2b S a0 j1 Q (wX12_isTold_2 S a0 j1 Q n) h x3 := hw
    unfold wX12_isTold_2b at hw
    refine g_iload_n O dX12_isTold_2 rfl ?_
    refine g_iconst O dX12_isTold_3 kv_3 ?_
    refine g_aload_n O dX12_isTold_4 rfl ?_
    obtain ⟨c5, hw⟩ := hw
    refine gf_X12_readMany O dX12_isTold_5 fl_X12_252 c5 ?_
    refine g_iadd O dX12_isTold_8 ?_
    refine g_icmp_ge (tgt := 51) O dX12_isTold_9 rfl (fun q9 => ?_) (fun q9 => ?_)
    · have hw := hw.1 q9
      refine g_iconst O dX12_isTold_51 kv_0 ?_
      exact g_zreturn O dX12_isTold_52 (by decide) ⟨rfl, rfl, _, rfl, hw⟩
    · have hw := hw.2 q9
      refine g_aload_n O dX12_isTold_12 rfl ?_
      refine gf_X12_machineName O dX12_isTold_13 fl_X12_17 c5 ?_
      refine g_iload_n O dX12_isTold_16 rfl ?_
      obtain ⟨c17, hw⟩ := hw
      refine g_laload O dX12_isTold_17 c17.1 c17.2 ?_
      refine g_lload_n O dX12_isTold_18 rfl ?_
      refine g_lcmp O dX12_isTold_19 ?_
      refine g_if_eq (tgt := 43) O dX12_isTold_20 rfl (fun q20 => ?_) (fun q20 => ?_)
      · have hw := hw.1 q20
        refine g_iconst O dX12_isTold_43 kv_1 ?_
        exact g_zreturn O dX12_isTold_44 (by decide) ⟨rfl, rfl, _, rfl, hw⟩
      · have hw := hw.2 q20
        refine g_aload_n O dX12_isTold_23 rfl ?_
        refine g_iload_n O dX12_isTold_24 rfl ?_
        refine g_lload_n O dX12_isTold_25 rfl ?_
        refine g_callV (As := [vi x3, vj j1]) (rest := []) O ci_12 rfl dX12_isTold_26 ml_X12_255 im_yX12_varOf se_yX12_varOf ini_X12 co_yX12_varOf yo_yX12_varOf c5 rfl rfl (Nat.le_of_ble_eq_true rfl) ⟨by decide, by decide, by decide, by decide⟩ (okX12_varOf hw) (k_I fun r26 h26 hw => ?_)
        refine g_iconst O dX12_isTold_29 kv_m1 ?_
        refine g_icmp_ne (tgt := 43) O dX12_isTold_30 rfl (fun q30 => ?_) (fun q30 => ?_)
        · have hw := hw.1 q30
          refine g_iconst O dX12_isTold_43 kv_1 ?_
          exact g_zreturn O dX12_isTold_44 (by decide) ⟨rfl, rfl, _, rfl, hw⟩
        · have hw := hw.2 q30
          refine g_aload_n O dX12_isTold_33 rfl ?_
          refine g_iload_n O dX12_isTold_34 rfl ?_
          refine g_lload_n O dX12_isTold_35 rfl ?_
          refine g_callV (As := [vi x3, vj j1]) (rest := []) O ci_12 rfl dX12_isTold_36 ml_X12_299 im_yX12_eventIn se_yX12_eventIn ini_X12 co_yX12_eventIn yo_yX12_eventIn c5 rfl rfl (Nat.le_of_ble_eq_true rfl) ⟨by decide, by decide, by decide, by decide⟩ (okX12_eventIn hw) (k_I fun r36 h36 hw => ?_)
          refine g_iconst O dX12_isTold_39 kv_m1 ?_
          refine g_icmp_eq (tgt := 45) O dX12_isTold_40 rfl (fun q40 => ?_) (fun q40 => ?_)
          · have hw := hw.1 q40
            refine g_iinc (lc' := [some (vr a0), some (vj j1), none, some (vi (x3 + (1 : Int32)))]) O dX12_isTold_45 rfl kv_1 rfl rfl ?_
            refine g_goto (tgt := 2) O dX12_isTold_48 rfl ?_
            exact hB2 _ _ hw
          · have hw := hw.2 q40
            refine g_iconst O dX12_isTold_43 kv_1 ?_
            exact g_zreturn O dX12_isTold_44 (by decide) ⟨rfl, rfl, _, rfl, hw⟩
theorem okX12_isTold {E : Ev} {S : Sh} {Z : Option Nat} {Q : Int32 → Hp → Prop} {h : Hp} {a0 : Nat} {j1 : Int64} (hw : wX12_isTold S h a0 j1 Q) : Ct E yX12_isTold cX12_isTold 4 (some .boolean) 2 48 0 0 S Z h [vr a0, vj j1] (qI S Z Q) := by
  refine Ct.of (by decide) (lc := [some (vr a0), some (vj j1), none, none]) (Nat.le_of_ble_eq_true rfl) rfl (fun X O => ?_)
  unfold wX12_isTold at hw
  refine g_iconst O dX12_isTold_0 kv_3 ?_
  refine g_istore_n (lc' := [some (vr a0), some (vj j1), none, some (vi (3 : Int32))]) O dX12_isTold_1 rfl (Nat.le_of_ble_eq_true rfl) rfl ?_
  obtain ⟨n2, hw⟩ := hw
  exact okX12_isTold_2 O n2 _ _ hw
theorem dX12_isVar_0 : decode cX12_isVar 0 = .ok (.aload_n 0, 1) := by decide +kernel
theorem dX12_isVar_1 : decode cX12_isVar 1 = .ok (.iload_n 1, 1) := by decide +kernel
theorem dX12_isVar_2 : decode cX12_isVar 2 = .ok (.invokevirtual 389, 3) := by decide +kernel
theorem dX12_isVar_5 : decode cX12_isVar 5 = .ok (.ifCond .eq 23, 3) := by decide +kernel
theorem dX12_isVar_8 : decode cX12_isVar 8 = .ok (.iload_n 2, 1) := by decide +kernel
theorem dX12_isVar_9 : decode cX12_isVar 9 = .ok (.iconst 0, 1) := by decide +kernel
theorem dX12_isVar_10 : decode cX12_isVar 10 = .ok (.aload_n 0, 1) := by decide +kernel
theorem dX12_isVar_11 : decode cX12_isVar 11 = .ok (.getfield 27, 3) := by decide +kernel
theorem dX12_isVar_14 : decode cX12_isVar 14 = .ok (.iload_n 1, 1) := by decide +kernel
theorem dX12_isVar_15 : decode cX12_isVar 15 = .ok (.iaload, 1) := by decide +kernel
theorem dX12_isVar_16 : decode cX12_isVar 16 = .ok (.iconst 1, 1) := by decide +kernel
theorem dX12_isVar_17 : decode cX12_isVar 17 = .ok (.isub, 1) := by decide +kernel
theorem dX12_isVar_18 : decode cX12_isVar 18 = .ok (.invokestatic 142, 3) := by decide +kernel
theorem dX12_isVar_21 : decode cX12_isVar 21 = .ok (.ifCond .eq 7, 3) := by decide +kernel
theorem dX12_isVar_24 : decode cX12_isVar 24 = .ok (.iconst 1, 1) := by decide +kernel
theorem dX12_isVar_25 : decode cX12_isVar 25 = .ok (.goto 4, 3) := by decide +kernel
theorem dX12_isVar_28 : decode cX12_isVar 28 = .ok (.iconst 0, 1) := by decide +kernel
theorem dX12_isVar_29 : decode cX12_isVar 29 = .ok (.ireturn, 1) := by decide +kernel
theorem okX12_isVar {E : Ev} {S : Sh} {Z : Option Nat} {Q : Int32 → Hp → Prop} {h : Hp} {a0 : Nat} {x1 : Int32} {x2 : Int32} (hw : wX12_isVar S h a0 x1 x2 Q) : Ct E yX12_isVar cX12_isVar 3 (some .boolean) 3 67 0 0 S Z h [vr a0, vi x1, vi x2] (qI S Z Q) := by
  refine Ct.of (by decide) (lc := [some (vr a0), some (vi x1), some (vi x2)]) (Nat.le_of_ble_eq_true rfl) rfl (fun X O => ?_)
  unfold wX12_isVar at hw
  refine g_aload_n O dX12_isVar_0 rfl ?_
  refine g_iload_n O dX12_isVar_1 rfl ?_
  obtain ⟨c2, hw⟩ := hw
  refine g_callV (As := [vi x1]) (rest := []) O ci_12 rfl dX12_isVar_2 ml_X12_389 im_yX12_isMachine se_yX12_isMachine ini_X12 co_yX12_isMachine yo_yX12_isMachine c2 rfl rfl (Nat.le_of_ble_eq_true rfl) ⟨by decide, by decide, by decide, by decide⟩ (okX12_isMachine hw) (k_I fun r2 h2 hw => ?_)
  refine g_if_eq (tgt := 28) O dX12_isVar_5 rfl (fun q5 => ?_) (fun q5 => ?_)
  · have hw := hw.1 q5
    refine g_iconst O dX12_isVar_28 kv_0 ?_
    exact g_zreturn O dX12_isVar_29 (by decide) ⟨rfl, rfl, _, rfl, hw⟩
  · have hw := hw.2 q5
    refine g_iload_n O dX12_isVar_8 rfl ?_
    refine g_iconst O dX12_isVar_9 kv_0 ?_
    refine g_aload_n O dX12_isVar_10 rfl ?_
    refine gf_X12_varMany O dX12_isVar_11 fl_X12_27 c2 ?_
    refine g_iload_n O dX12_isVar_14 rfl ?_
    obtain ⟨c15, hw⟩ := hw
    refine g_iaload O dX12_isVar_15 c15.1 c15.2 ?_
    refine g_iconst O dX12_isVar_16 kv_1 ?_
    refine g_isub O dX12_isVar_17 ?_
    refine g_callS (As := [vi x2, vi (0 : Int32), vi (((gI h2 (gR h2 a0 17) (ix x1)) - (1 : Int32)))]) (rest := []) O dX12_isVar_18 ml_X12_142 st_yX12_in ini_X12 co_yX12_in yo_yX12_in rfl rfl (Nat.le_of_ble_eq_true rfl) ⟨by decide, by decide, by decide, by decide⟩ (okX12_in hw) (k_I fun r18 h18 hw => ?_)
    refine g_if_eq (tgt := 28) O dX12_isVar_21 rfl (fun q21 => ?_) (fun q21 => ?_)
    · have hw := hw.1 q21
      refine g_iconst O dX12_isVar_28 kv_0 ?_
      exact g_zreturn O dX12_isVar_29 (by decide) ⟨rfl, rfl, _, rfl, hw⟩
    · have hw := hw.2 q21
      refine g_iconst O dX12_isVar_24 kv_1 ?_
      refine g_goto (tgt := 29) O dX12_isVar_25 rfl ?_
      exact g_zreturn O dX12_isVar_29 (by decide) ⟨rfl, rfl, _, rfl, hw⟩
theorem dX12_leads_0 : decode cX12_leads 0 = .ok (.iconst 0, 1) := by decide +kernel
theorem dX12_leads_1 : decode cX12_leads 1 = .ok (.istore_n 3, 1) := by decide +kernel
theorem dX12_leads_2 : decode cX12_leads 2 = .ok (.iload_n 3, 1) := by decide +kernel
theorem dX12_leads_3 : decode cX12_leads 3 = .ok (.aload_n 0, 1) := by decide +kernel
theorem dX12_leads_4 : decode cX12_leads 4 = .ok (.getfield 33, 3) := by decide +kernel
theorem dX12_leads_7 : decode cX12_leads 7 = .ok (.iload_n 1, 1) := by decide +kernel
theorem dX12_leads_8 : decode cX12_leads 8 = .ok (.iaload, 1) := by decide +kernel
theorem dX12_leads_9 : decode cX12_leads 9 = .ok (.if_icmp .ge 56, 3) := by decide +kernel
theorem dX12_leads_12 : decode cX12_leads 12 = .ok (.aload_n 0, 1) := by decide +kernel
theorem dX12_leads_13 : decode cX12_leads 13 = .ok (.getfield 63, 3) := by decide +kernel
theorem dX12_leads_16 : decode cX12_leads 16 = .ok (.iconst 4, 1) := by decide +kernel
theorem dX12_leads_17 : decode cX12_leads 17 = .ok (.iload_n 1, 1) := by decide +kernel
theorem dX12_leads_18 : decode cX12_leads 18 = .ok (.imul, 1) := by decide +kernel
theorem dX12_leads_19 : decode cX12_leads 19 = .ok (.iload_n 3, 1) := by decide +kernel
theorem dX12_leads_20 : decode cX12_leads 20 = .ok (.iadd, 1) := by decide +kernel
theorem dX12_leads_21 : decode cX12_leads 21 = .ok (.iaload, 1) := by decide +kernel
theorem dX12_leads_22 : decode cX12_leads 22 = .ok (.istore 4, 2) := by decide +kernel
theorem dX12_leads_24 : decode cX12_leads 24 = .ok (.iload 4, 2) := by decide +kernel
theorem dX12_leads_26 : decode cX12_leads 26 = .ok (.aload_n 0, 1) := by decide +kernel
theorem dX12_leads_27 : decode cX12_leads 27 = .ok (.getfield 66, 3) := by decide +kernel
theorem dX12_leads_30 : decode cX12_leads 30 = .ok (.iconst 4, 1) := by decide +kernel
theorem dX12_leads_31 : decode cX12_leads 31 = .ok (.iload_n 1, 1) := by decide +kernel
theorem dX12_leads_32 : decode cX12_leads 32 = .ok (.imul, 1) := by decide +kernel
theorem dX12_leads_33 : decode cX12_leads 33 = .ok (.iload_n 3, 1) := by decide +kernel
theorem dX12_leads_34 : decode cX12_leads 34 = .ok (.iadd, 1) := by decide +kernel
theorem dX12_leads_35 : decode cX12_leads 35 = .ok (.iaload, 1) := by decide +kernel
theorem dX12_leads_36 : decode cX12_leads 36 = .ok (.if_icmp .gt 23, 3) := by decide +kernel
theorem dX12_leads_39 : decode cX12_leads 39 = .ok (.aload_n 0, 1) := by decide +kernel
theorem dX12_leads_40 : decode cX12_leads 40 = .ok (.iload_n 1, 1) := by decide +kernel
theorem dX12_leads_41 : decode cX12_leads 41 = .ok (.iload_n 3, 1) := by decide +kernel
theorem dX12_leads_42 : decode cX12_leads 42 = .ok (.iload_n 2, 1) := by decide +kernel
theorem dX12_leads_43 : decode cX12_leads 43 = .ok (.iload 4, 2) := by decide +kernel
theorem dX12_leads_45 : decode cX12_leads 45 = .ok (.invokevirtual 482, 3) := by decide +kernel
theorem dX12_leads_48 : decode cX12_leads 48 = .ok (.ifCond .eq 5, 3) := by decide +kernel
theorem dX12_leads_51 : decode cX12_leads 51 = .ok (.iconst 1, 1) := by decide +kernel
theorem dX12_leads_52 : decode cX12_leads 52 = .ok (.ireturn, 1) := by decide +kernel
theorem dX12_leads_53 : decode cX12_leads 53 = .ok (.iinc 4 1, 3) := by decide +kernel
theorem dX12_leads_56 : decode cX12_leads 56 = .ok (.goto (-32), 3) := by decide +kernel
theorem dX12_leads_59 : decode cX12_leads 59 = .ok (.iinc 3 1, 3) := by decide +kernel
theorem dX12_leads_62 : decode cX12_leads 62 = .ok (.goto (-60), 3) := by decide +kernel
theorem dX12_leads_65 : decode cX12_leads 65 = .ok (.iconst 0, 1) := by decide +kernel
theorem dX12_leads_66 : decode cX12_leads 66 = .ok (.ireturn, 1) := by decide +kernel
theorem okX12_leads_24 {E : Ev} {X : Cx} {S : Sh} {Z : Option Nat} {Q : Int32 → Hp → Prop} {B2 : Hp → Int32 → Prop} {a0 : Nat} {x1 : Int32} {x2 : Int32} {x3 : Int32} (O : Ok E X yX12_leads cX12_leads 5 (some .boolean) 5 135 0 0 (qI S Z Q)) (hB2 : ∀ (h : Hp) (x3 : Int32), B2 h x3 → G E X 0 0 S Z h 2 [some (vr a0), some (vi x1), some (vi x2), some (vi x3), none] []) : ∀ (n : Nat) (h : Hp) (x4 : Int32), wX12_leads_24 S B2 a0 x1 x2 x3 Q n h x4 → G E X 0 0 S Z h 24 [some (vr a0), some (vi x1), some (vi x2), some (vi x3), some (vi x4)] [] := by
  intro n
  induction n with
  | zero => intro h x4 hw; exact hw.elim
  | succ n hB24 =>
    intro h x4 hw
    have hw : wX12_leads_24b S B2 a0 x1 x2 x3 Q (wX12_leads_24 S B2 a0 x1 x2 x3 Q n) h x4 := hw
    unfold wX12_leads_24b at hw
    refine g_iload O dX12_leads_24 rfl ?_
    refine g_aload_n O dX12_leads_26 rfl ?_
    obtain ⟨c27, hw⟩ := hw
    refine gf_X12_lastPick O dX12_leads_27 fl_X12_66 c27 ?_
    refine g_iconst O dX12_leads_30 kv_4 ?_
    refine g_iload_n O dX12_leads_31 rfl ?_
    refine g_imul O dX12_leads_32 ?_
    refine g_iload_n O dX12_leads_33 rfl ?_
    refine g_iadd O dX12_leads_34 ?_
    obtain ⟨c35, hw⟩ := hw
    refine g_iaload O dX12_leads_35 c35.1 c35.2 ?_
    refine g_icmp_gt (tgt := 59) O dX12_leads_36 rfl (fun q36 => ?_) (fun q36 => ?_)
    · have hw := hw.1 q36
      refine g_iinc (lc' := [some (vr a0), some (vi x1), some (vi x2), some (vi (x3 + (1 : Int32))), some (vi x4)]) O dX12_leads_59 rfl kv_1 rfl rfl ?_
      refine g_goto (tgt := 2) O dX12_leads_62 rfl ?_
      refine g_mask [true, true, true, true, false] rfl rfl ?_
      exact hB2 _ _ hw
    · have hw := hw.2 q36
      refine g_aload_n O dX12_leads_39 rfl ?_
      refine g_iload_n O dX12_leads_40 rfl ?_
      refine g_iload_n O dX12_leads_41 rfl ?_
      refine g_iload_n O dX12_leads_42 rfl ?_
      refine g_iload O dX12_leads_43 rfl ?_
      refine g_callV (As := [vi x1, vi x3, vi x2, vi x4]) (rest := []) O ci_12 rfl dX12_leads_45 ml_X12_482 im_yX12_goes se_yX12_goes ini_X12 co_yX12_goes yo_yX12_goes c27 rfl rfl (Nat.le_of_ble_eq_true rfl) ⟨by decide, by decide, by decide, by decide⟩ (okX12_goes hw) (k_I fun r45 h45 hw => ?_)
      refine g_if_eq (tgt := 53) O dX12_leads_48 rfl (fun q48 => ?_) (fun q48 => ?_)
      · have hw := hw.1 q48
        refine g_iinc (lc' := [some (vr a0), some (vi x1), some (vi x2), some (vi x3), some (vi (x4 + (1 : Int32)))]) O dX12_leads_53 rfl kv_1 rfl rfl ?_
        refine g_goto (tgt := 24) O dX12_leads_56 rfl ?_
        exact hB24 _ _ hw
      · have hw := hw.2 q48
        refine g_iconst O dX12_leads_51 kv_1 ?_
        exact g_zreturn O dX12_leads_52 (by decide) ⟨rfl, rfl, _, rfl, hw⟩
theorem okX12_leads_2 {E : Ev} {X : Cx} {S : Sh} {Z : Option Nat} {Q : Int32 → Hp → Prop} {a0 : Nat} {x1 : Int32} {x2 : Int32} (O : Ok E X yX12_leads cX12_leads 5 (some .boolean) 5 135 0 0 (qI S Z Q)) : ∀ (n : Nat) (h : Hp) (x3 : Int32), wX12_leads_2 S a0 x1 x2 Q n h x3 → G E X 0 0 S Z h 2 [some (vr a0), some (vi x1), some (vi x2), some (vi x3), none] [] := by
  intro n
  induction n with
  | zero => intro h x3 hw; exact hw.elim
  | succ n hB2 =>
    intro h x3 hw
    have hw : wX12_leads_2b S a0 x1 x2 Q (wX12_leads_2 S a0 x1 x2 Q n) h x3 := hw
    unfold wX12_leads_2b at hw
    refine g_iload_n O dX12_leads_2 rfl ?_
    refine g_aload_n O dX12_leads_3 rfl ?_
    obtain ⟨c4, hw⟩ := hw
    refine gf_X12_eventMany O dX12_leads_4 fl_X12_33 c4 ?_
    refine g_iload_n O dX12_leads_7 rfl ?_
    obtain ⟨c8, hw⟩ := hw
    refine g_iaload O dX12_leads_8 c8.1 c8.2 ?_
    refine g_icmp_ge (tgt := 65) O dX12_leads_9 rfl (fun q9 => ?_) (fun q9 => ?_)
    · have hw := hw.1 q9
      refine g_iconst O dX12_leads_65 kv_0 ?_
      exact g_zreturn O dX12_leads_66 (by decide) ⟨rfl, rfl, _, rfl, hw⟩
    · have hw := hw.2 q9
      refine g_aload_n O dX12_leads_12 rfl ?_
      refine gf_X12_firstPick O dX12_leads_13 fl_X12_63 c4 ?_
      refine g_iconst O dX12_leads_16 kv_4 ?_
      refine g_iload_n O dX12_leads_17 rfl ?_
      refine g_imul O dX12_leads_18 ?_
      refine g_iload_n O dX12_leads_19 rfl ?_
      refine g_iadd O dX12_leads_20 ?_
      obtain ⟨c21, hw⟩ := hw
      refine g_iaload O dX12_leads_21 c21.1 c21.2 ?_
      refine g_nmI (fun xv22 e22 => ?_)
      have hw := hw xv22 e22
      refine g_istore (lc' := [some (vr a0), some (vi x1), some (vi x2), some (vi x3), some (vi xv22)]) O dX12_leads_22 rfl (Nat.le_of_ble_eq_true rfl) rfl ?_
      obtain ⟨n24, hw⟩ := hw
      exact okX12_leads_24 O hB2 n24 _ _ hw
theorem okX12_leads {E : Ev} {S : Sh} {Z : Option Nat} {Q : Int32 → Hp → Prop} {h : Hp} {a0 : Nat} {x1 : Int32} {x2 : Int32} (hw : wX12_leads S h a0 x1 x2 Q) : Ct E yX12_leads cX12_leads 5 (some .boolean) 5 135 0 0 S Z h [vr a0, vi x1, vi x2] (qI S Z Q) := by
  refine Ct.of (by decide) (lc := [some (vr a0), some (vi x1), some (vi x2), none, none]) (Nat.le_of_ble_eq_true rfl) rfl (fun X O => ?_)
  unfold wX12_leads at hw
  refine g_iconst O dX12_leads_0 kv_0 ?_
  refine g_istore_n (lc' := [some (vr a0), some (vi x1), some (vi x2), some (vi (0 : Int32)), none]) O dX12_leads_1 rfl (Nat.le_of_ble_eq_true rfl) rfl ?_
  obtain ⟨n2, hw⟩ := hw
  exact okX12_leads_2 O n2 _ _ hw
theorem dX12_letter_0 : decode cX12_letter 0 = .ok (.aload_n 0, 1) := by decide +kernel
theorem dX12_letter_1 : decode cX12_letter 1 = .ok (.iconst 0, 1) := by decide +kernel
theorem dX12_letter_2 : decode cX12_letter 2 = .ok (.putfield 121, 3) := by decide +kernel
theorem dX12_letter_5 : decode cX12_letter 5 = .ok (.iconst (-1), 1) := by decide +kernel
theorem dX12_letter_6 : decode cX12_letter 6 = .ok (.istore 4, 2) := by decide +kernel
theorem dX12_letter_8 : decode cX12_letter 8 = .ok (.iload_n 2, 1) := by decide +kernel
theorem dX12_letter_9 : decode cX12_letter 9 = .ok (.iconst (-1), 1) := by decide +kernel
theorem dX12_letter_10 : decode cX12_letter 10 = .ok (.if_icmp .ne 26, 3) := by decide +kernel
theorem dX12_letter_13 : decode cX12_letter 13 = .ok (.aload_n 0, 1) := by decide +kernel
theorem dX12_letter_14 : decode cX12_letter 14 = .ok (.iload_n 1, 1) := by decide +kernel
theorem dX12_letter_15 : decode cX12_letter 15 = .ok (.invokevirtual 389, 3) := by decide +kernel
theorem dX12_letter_18 : decode cX12_letter 18 = .ok (.ifCond .eq 18, 3) := by decide +kernel
theorem dX12_letter_21 : decode cX12_letter 21 = .ok (.aload_n 0, 1) := by decide +kernel
theorem dX12_letter_22 : decode cX12_letter 22 = .ok (.getfield 17, 3) := by decide +kernel
theorem dX12_letter_25 : decode cX12_letter 25 = .ok (.iload_n 1, 1) := by decide +kernel
theorem dX12_letter_26 : decode cX12_letter 26 = .ok (.laload, 1) := by decide +kernel
theorem dX12_letter_27 : decode cX12_letter 27 = .ok (.iload_n 3, 1) := by decide +kernel
theorem dX12_letter_28 : decode cX12_letter 28 = .ok (.invokestatic 466, 3) := by decide +kernel
theorem dX12_letter_31 : decode cX12_letter 31 = .ok (.istore 4, 2) := by decide +kernel
theorem dX12_letter_33 : decode cX12_letter 33 = .ok (.goto 28, 3) := by decide +kernel
theorem dX12_letter_36 : decode cX12_letter 36 = .ok (.aload_n 0, 1) := by decide +kernel
theorem dX12_letter_37 : decode cX12_letter 37 = .ok (.iload_n 1, 1) := by decide +kernel
theorem dX12_letter_38 : decode cX12_letter 38 = .ok (.iload_n 2, 1) := by decide +kernel
theorem dX12_letter_39 : decode cX12_letter 39 = .ok (.invokevirtual 398, 3) := by decide +kernel
theorem dX12_letter_42 : decode cX12_letter 42 = .ok (.ifCond .eq 19, 3) := by decide +kernel
theorem dX12_letter_45 : decode cX12_letter 45 = .ok (.aload_n 0, 1) := by decide +kernel
theorem dX12_letter_46 : decode cX12_letter 46 = .ok (.getfield 21, 3) := by decide +kernel
theorem dX12_letter_49 : decode cX12_letter 49 = .ok (.iconst 3, 1) := by decide +kernel
theorem dX12_letter_50 : decode cX12_letter 50 = .ok (.iload_n 1, 1) := by decide +kernel
theorem dX12_letter_51 : decode cX12_letter 51 = .ok (.imul, 1) := by decide +kernel
theorem dX12_letter_52 : decode cX12_letter 52 = .ok (.iload_n 2, 1) := by decide +kernel
theorem dX12_letter_53 : decode cX12_letter 53 = .ok (.iadd, 1) := by decide +kernel
theorem dX12_letter_54 : decode cX12_letter 54 = .ok (.laload, 1) := by decide +kernel
theorem dX12_letter_55 : decode cX12_letter 55 = .ok (.iload_n 3, 1) := by decide +kernel
theorem dX12_letter_56 : decode cX12_letter 56 = .ok (.invokestatic 466, 3) := by decide +kernel
theorem dX12_letter_59 : decode cX12_letter 59 = .ok (.istore 4, 2) := by decide +kernel
theorem dX12_letter_61 : decode cX12_letter 61 = .ok (.iload 4, 2) := by decide +kernel
theorem dX12_letter_63 : decode cX12_letter 63 = .ok (.iconst (-1), 1) := by decide +kernel
theorem dX12_letter_64 : decode cX12_letter 64 = .ok (.if_icmp .ne 8, 3) := by decide +kernel
theorem dX12_letter_67 : decode cX12_letter 67 = .ok (.aload_n 0, 1) := by decide +kernel
theorem dX12_letter_68 : decode cX12_letter 68 = .ok (.iconst 1, 1) := by decide +kernel
theorem dX12_letter_69 : decode cX12_letter 69 = .ok (.putfield 121, 3) := by decide +kernel
theorem dX12_letter_72 : decode cX12_letter 72 = .ok (.iload 4, 2) := by decide +kernel
theorem dX12_letter_74 : decode cX12_letter 74 = .ok (.iconst (-1), 1) := by decide +kernel
theorem dX12_letter_75 : decode cX12_letter 75 = .ok (.if_icmp .ne 7, 3) := by decide +kernel
theorem dX12_letter_78 : decode cX12_letter 78 = .ok (.iconst 0, 1) := by decide +kernel
theorem dX12_letter_79 : decode cX12_letter 79 = .ok (.goto 5, 3) := by decide +kernel
theorem dX12_letter_82 : decode cX12_letter 82 = .ok (.iload 4, 2) := by decide +kernel
theorem dX12_letter_84 : decode cX12_letter 84 = .ok (.ireturn, 1) := by decide +kernel
theorem okX12_letter_j72 {E : Ev} {X : Cx} {S : Sh} {Z : Option Nat} {Q : Int32 → Hp → Prop} {h : Hp} {x4 : Int32} (O : Ok E X yX12_letter cX12_letter 5 (some .int) 4 89 0 0 (qI S Z Q)) (hw : wX12_letter_j72 S h x4 Q) : G E X 0 0 S Z h 72 [none, none, none, none, some (vi x4)] [] := by
  unfold wX12_letter_j72 at hw
  refine g_iload O dX12_letter_72 rfl ?_
  refine g_iconst O dX12_letter_74 kv_m1 ?_
  refine g_icmp_ne (tgt := 82) O dX12_letter_75 rfl (fun q75 => ?_) (fun q75 => ?_)
  · have hw := hw.1 q75
    refine g_iload O dX12_letter_82 rfl ?_
    exact g_ireturn O dX12_letter_84 ⟨rfl, rfl, _, rfl, hw⟩
  · have hw := hw.2 q75
    refine g_iconst O dX12_letter_78 kv_0 ?_
    refine g_goto (tgt := 84) O dX12_letter_79 rfl ?_
    exact g_ireturn O dX12_letter_84 ⟨rfl, rfl, _, rfl, hw⟩
theorem okX12_letter_j61 {E : Ev} {X : Cx} {S : Sh} {Z : Option Nat} {Q : Int32 → Hp → Prop} {h : Hp} {a0 : Nat} {x4 : Int32} (O : Ok E X yX12_letter cX12_letter 5 (some .int) 4 89 0 0 (qI S Z Q)) (hw : wX12_letter_j61 S h a0 x4 Q) : G E X 0 0 S Z h 61 [some (vr a0), none, none, none, some (vi x4)] [] := by
  unfold wX12_letter_j61 at hw
  refine g_iload O dX12_letter_61 rfl ?_
  refine g_iconst O dX12_letter_63 kv_m1 ?_
  refine g_icmp_ne (tgt := 72) O dX12_letter_64 rfl (fun q64 => ?_) (fun q64 => ?_)
  · have hw := hw.1 q64
    refine g_mask [false, false, false, false, true] rfl rfl ?_
    exact okX12_letter_j72 O hw
  · have hw := hw.2 q64
    refine g_aload_n O dX12_letter_67 rfl ?_
    refine g_iconst O dX12_letter_68 kv_1 ?_
    obtain ⟨c69, hw⟩ := hw
    refine pf_X12_thrown O dX12_letter_69 fl_X12_121 c69 ?_
    refine g_mask [false, false, false, false, true] rfl rfl ?_
    exact okX12_letter_j72 O hw
theorem okX12_letter_j36 {E : Ev} {X : Cx} {S : Sh} {Z : Option Nat} {Q : Int32 → Hp → Prop} {h : Hp} {a0 : Nat} {x1 : Int32} {x2 : Int32} {x3 : Int32} {x4 : Int32} (O : Ok E X yX12_letter cX12_letter 5 (some .int) 4 89 0 0 (qI S Z Q)) (hw : wX12_letter_j36 S h a0 x1 x2 x3 x4 Q) : G E X 0 0 S Z h 36 [some (vr a0), some (vi x1), some (vi x2), some (vi x3), some (vi x4)] [] := by
  unfold wX12_letter_j36 at hw
  refine g_aload_n O dX12_letter_36 rfl ?_
  refine g_iload_n O dX12_letter_37 rfl ?_
  refine g_iload_n O dX12_letter_38 rfl ?_
  obtain ⟨c39, hw⟩ := hw
  refine g_callV (As := [vi x1, vi x2]) (rest := []) O ci_12 rfl dX12_letter_39 ml_X12_398 im_yX12_isVar se_yX12_isVar ini_X12 co_yX12_isVar yo_yX12_isVar c39 rfl rfl (Nat.le_of_ble_eq_true rfl) ⟨by decide, by decide, by decide, by decide⟩ (okX12_isVar hw) (k_I fun r39 h39 hw => ?_)
  refine g_if_eq (tgt := 61) O dX12_letter_42 rfl (fun q42 => ?_) (fun q42 => ?_)
  · have hw := hw.1 q42
    refine g_mask [true, false, false, false, true] rfl rfl ?_
    exact okX12_letter_j61 O hw
  · have hw := hw.2 q42
    refine g_aload_n O dX12_letter_45 rfl ?_
    refine gf_X12_varName O dX12_letter_46 fl_X12_21 c39 ?_
    refine g_iconst O dX12_letter_49 kv_3 ?_
    refine g_iload_n O dX12_letter_50 rfl ?_
    refine g_imul O dX12_letter_51 ?_
    refine g_iload_n O dX12_letter_52 rfl ?_
    refine g_iadd O dX12_letter_53 ?_
    obtain ⟨c54, hw⟩ := hw
    refine g_laload O dX12_letter_54 c54.1 c54.2 ?_
    refine g_iload_n O dX12_letter_55 rfl ?_
    refine g_callS (As := [vj ((gJ h39 (gR h39 a0 15) (ix ((((3 : Int32) * x1) + x2))))), vi x3]) (rest := []) O dX12_letter_56 ml_X12_466 st_yX12_letterOf ini_X12 co_yX12_letterOf yo_yX12_letterOf rfl rfl (Nat.le_of_ble_eq_true rfl) ⟨by decide, by decide, by decide, by decide⟩ (okX12_letterOf hw) (k_I fun r56 h56 hw => ?_)
    refine g_istore (lc' := [some (vr a0), some (vi x1), some (vi x2), some (vi x3), some (vi r56)]) O dX12_letter_59 rfl (Nat.le_of_ble_eq_true rfl) rfl ?_
    refine g_mask [true, false, false, false, true] rfl rfl ?_
    exact okX12_letter_j61 O hw
theorem okX12_letter {E : Ev} {S : Sh} {Z : Option Nat} {Q : Int32 → Hp → Prop} {h : Hp} {a0 : Nat} {x1 : Int32} {x2 : Int32} {x3 : Int32} (hw : wX12_letter S h a0 x1 x2 x3 Q) : Ct E yX12_letter cX12_letter 5 (some .int) 4 89 0 0 S Z h [vr a0, vi x1, vi x2, vi x3] (qI S Z Q) := by
  refine Ct.of (by decide) (lc := [some (vr a0), some (vi x1), some (vi x2), some (vi x3), none]) (Nat.le_of_ble_eq_true rfl) rfl (fun X O => ?_)
  unfold wX12_letter at hw
  refine g_aload_n O dX12_letter_0 rfl ?_
  refine g_iconst O dX12_letter_1 kv_0 ?_
  obtain ⟨c2, hw⟩ := hw
  refine pf_X12_thrown O dX12_letter_2 fl_X12_121 c2 ?_
  refine g_nmH (fun h2 e2 => ?_)
  have hw := hw h2 e2
  refine g_iconst O dX12_letter_5 kv_m1 ?_
  refine g_istore (lc' := [some (vr a0), some (vi x1), some (vi x2), some (vi x3), some (vi (-1 : Int32))]) O dX12_letter_6 rfl (Nat.le_of_ble_eq_true rfl) rfl ?_
  refine g_iload_n O dX12_letter_8 rfl ?_
  refine g_iconst O dX12_letter_9 kv_m1 ?_
  refine g_icmp_ne (tgt := 36) O dX12_letter_10 rfl (fun q10 => ?_) (fun q10 => ?_)
  · have hw := hw.1 q10
    exact okX12_letter_j36 O hw
  · have hw := hw.2 q10
    refine g_aload_n O dX12_letter_13 rfl ?_
    refine g_iload_n O dX12_letter_14 rfl ?_
    refine g_callV (As := [vi x1]) (rest := []) O ci_12 rfl dX12_letter_15 ml_X12_389 im_yX12_isMachine se_yX12_isMachine ini_X12 co_yX12_isMachine yo_yX12_isMachine c2 rfl rfl (Nat.le_of_ble_eq_true rfl) ⟨by decide, by decide, by decide, by decide⟩ (okX12_isMachine hw) (k_I fun r15 h15 hw => ?_)
    refine g_if_eq (tgt := 36) O dX12_letter_18 rfl (fun q18 => ?_) (fun q18 => ?_)
    · have hw := hw.1 q18
      exact okX12_letter_j36 O hw
    · have hw := hw.2 q18
      refine g_aload_n O dX12_letter_21 rfl ?_
      refine gf_X12_machineName O dX12_letter_22 fl_X12_17 c2 ?_
      refine g_iload_n O dX12_letter_25 rfl ?_
      obtain ⟨c26, hw⟩ := hw
      refine g_laload O dX12_letter_26 c26.1 c26.2 ?_
      refine g_iload_n O dX12_letter_27 rfl ?_
      refine g_callS (As := [vj ((gJ h15 (gR h15 a0 14) (ix x1))), vi x3]) (rest := []) O dX12_letter_28 ml_X12_466 st_yX12_letterOf ini_X12 co_yX12_letterOf yo_yX12_letterOf rfl rfl (Nat.le_of_ble_eq_true rfl) ⟨by decide, by decide, by decide, by decide⟩ (okX12_letterOf hw) (k_I fun r28 h28 hw => ?_)
      refine g_istore (lc' := [some (vr a0), some (vi x1), some (vi x2), some (vi x3), some (vi r28)]) O dX12_letter_31 rfl (Nat.le_of_ble_eq_true rfl) rfl ?_
      refine g_goto (tgt := 61) O dX12_letter_33 rfl ?_
      refine g_mask [true, false, false, false, true] rfl rfl ?_
      exact okX12_letter_j61 O hw
theorem dX12_pairs_0 : decode cX12_pairs 0 = .ok (.iconst 0, 1) := by decide +kernel
theorem dX12_pairs_1 : decode cX12_pairs 1 = .ok (.istore_n 2, 1) := by decide +kernel
theorem dX12_pairs_2 : decode cX12_pairs 2 = .ok (.iconst 0, 1) := by decide +kernel
theorem dX12_pairs_3 : decode cX12_pairs 3 = .ok (.istore_n 3, 1) := by decide +kernel
theorem dX12_pairs_4 : decode cX12_pairs 4 = .ok (.iload_n 1, 1) := by decide +kernel
theorem dX12_pairs_5 : decode cX12_pairs 5 = .ok (.ifCond .le 64, 3) := by decide +kernel
theorem dX12_pairs_8 : decode cX12_pairs 8 = .ok (.iload_n 3, 1) := by decide +kernel
theorem dX12_pairs_9 : decode cX12_pairs 9 = .ok (.aload_n 0, 1) := by decide +kernel
theorem dX12_pairs_10 : decode cX12_pairs 10 = .ok (.getfield 36, 3) := by decide +kernel
theorem dX12_pairs_13 : decode cX12_pairs 13 = .ok (.iload_n 1, 1) := by decide +kernel
theorem dX12_pairs_14 : decode cX12_pairs 14 = .ok (.iconst 1, 1) := by decide +kernel
theorem dX12_pairs_15 : decode cX12_pairs 15 = .ok (.isub, 1) := by decide +kernel
theorem dX12_pairs_16 : decode cX12_pairs 16 = .ok (.iaload, 1) := by decide +kernel
theorem dX12_pairs_17 : decode cX12_pairs 17 = .ok (.if_icmp .ge 52, 3) := by decide +kernel
theorem dX12_pairs_20 : decode cX12_pairs 20 = .ok (.iconst 0, 1) := by decide +kernel
theorem dX12_pairs_21 : decode cX12_pairs 21 = .ok (.istore 4, 2) := by decide +kernel
theorem dX12_pairs_23 : decode cX12_pairs 23 = .ok (.iload 4, 2) := by decide +kernel
theorem dX12_pairs_25 : decode cX12_pairs 25 = .ok (.aload_n 0, 1) := by decide +kernel
theorem dX12_pairs_26 : decode cX12_pairs 26 = .ok (.getfield 36, 3) := by decide +kernel
theorem dX12_pairs_29 : decode cX12_pairs 29 = .ok (.iload_n 1, 1) := by decide +kernel
theorem dX12_pairs_30 : decode cX12_pairs 30 = .ok (.iaload, 1) := by decide +kernel
theorem dX12_pairs_31 : decode cX12_pairs 31 = .ok (.if_icmp .ge 32, 3) := by decide +kernel
theorem dX12_pairs_34 : decode cX12_pairs 34 = .ok (.iload_n 2, 1) := by decide +kernel
theorem dX12_pairs_35 : decode cX12_pairs 35 = .ok (.aload_n 0, 1) := by decide +kernel
theorem dX12_pairs_36 : decode cX12_pairs 36 = .ok (.getfield 100, 3) := by decide +kernel
theorem dX12_pairs_39 : decode cX12_pairs 39 = .ok (.iload_n 1, 1) := by decide +kernel
theorem dX12_pairs_40 : decode cX12_pairs 40 = .ok (.iload_n 3, 1) := by decide +kernel
theorem dX12_pairs_41 : decode cX12_pairs 41 = .ok (.iload 4, 2) := by decide +kernel
theorem dX12_pairs_43 : decode cX12_pairs 43 = .ok (.invokestatic 382, 3) := by decide +kernel
theorem dX12_pairs_46 : decode cX12_pairs 46 = .ok (.baload, 1) := by decide +kernel
theorem dX12_pairs_47 : decode cX12_pairs 47 = .ok (.ifCond .eq 7, 3) := by decide +kernel
theorem dX12_pairs_50 : decode cX12_pairs 50 = .ok (.iconst 1, 1) := by decide +kernel
theorem dX12_pairs_51 : decode cX12_pairs 51 = .ok (.goto 4, 3) := by decide +kernel
theorem dX12_pairs_54 : decode cX12_pairs 54 = .ok (.iconst 0, 1) := by decide +kernel
theorem dX12_pairs_55 : decode cX12_pairs 55 = .ok (.iadd, 1) := by decide +kernel
theorem dX12_pairs_56 : decode cX12_pairs 56 = .ok (.istore_n 2, 1) := by decide +kernel
theorem dX12_pairs_57 : decode cX12_pairs 57 = .ok (.iinc 4 1, 3) := by decide +kernel
theorem dX12_pairs_60 : decode cX12_pairs 60 = .ok (.goto (-37), 3) := by decide +kernel
theorem dX12_pairs_63 : decode cX12_pairs 63 = .ok (.iinc 3 1, 3) := by decide +kernel
theorem dX12_pairs_66 : decode cX12_pairs 66 = .ok (.goto (-62), 3) := by decide +kernel
theorem dX12_pairs_69 : decode cX12_pairs 69 = .ok (.iload_n 2, 1) := by decide +kernel
theorem dX12_pairs_70 : decode cX12_pairs 70 = .ok (.ireturn, 1) := by decide +kernel
theorem okX12_pairs_23 {E : Ev} {X : Cx} {S : Sh} {Z : Option Nat} {Q : Int32 → Hp → Prop} {B4 : Hp → Int32 → Int32 → Prop} {a0 : Nat} {x1 : Int32} {x3 : Int32} (O : Ok E X yX12_pairs cX12_pairs 5 (some .int) 2 46 0 0 (qI S Z Q)) (hB4 : ∀ (h : Hp) (x2 : Int32) (x3 : Int32), B4 h x2 x3 → G E X 0 0 S Z h 4 [some (vr a0), some (vi x1), some (vi x2), some (vi x3), none] []) : ∀ (n : Nat) (h : Hp) (x2 : Int32) (x4 : Int32), wX12_pairs_23 S B4 a0 x1 x3 Q n h x2 x4 → G E X 0 0 S Z h 23 [some (vr a0), some (vi x1), some (vi x2), some (vi x3), some (vi x4)] [] := by
  intro n
  induction n with
  | zero => intro h x2 x4 hw; exact hw.elim
  | succ n hB23 =>
    intro h x2 x4 hw
    have hw : wX12_pairs_23b S B4 a0 x1 x3 Q (wX12_pairs_23 S B4 a0 x1 x3 Q n) h x2 x4 := hw
    unfold wX12_pairs_23b at hw
    refine g_iload O dX12_pairs_23 rfl ?_
    refine g_aload_n O dX12_pairs_25 rfl ?_
    obtain ⟨c26, hw⟩ := hw
    refine gf_X12_sizes O dX12_pairs_26 fl_X12_36 c26 ?_
    refine g_iload_n O dX12_pairs_29 rfl ?_
    obtain ⟨c30, hw⟩ := hw
    refine g_iaload O dX12_pairs_30 c30.1 c30.2 ?_
    refine g_icmp_ge (tgt := 63) O dX12_pairs_31 rfl (fun q31 => ?_) (fun q31 => ?_)
    · have hw := hw.1 q31
      refine g_iinc (lc' := [some (vr a0), some (vi x1), some (vi x2), some (vi (x3 + (1 : Int32))), some (vi x4)]) O dX12_pairs_63 rfl kv_1 rfl rfl ?_
      refine g_goto (tgt := 4) O dX12_pairs_66 rfl ?_
      refine g_mask [true, true, true, true, false] rfl rfl ?_
      exact hB4 _ _ _ hw
    · have hw := hw.2 q31
      refine g_iload_n O dX12_pairs_34 rfl ?_
      refine g_aload_n O dX12_pairs_35 rfl ?_
      refine gf_X12_isGlued O dX12_pairs_36 fl_X12_100 c26 ?_
      refine g_iload_n O dX12_pairs_39 rfl ?_
      refine g_iload_n O dX12_pairs_40 rfl ?_
      refine g_iload O dX12_pairs_41 rfl ?_
      refine g_callS (As := [vi x1, vi x3, vi x4]) (rest := [vr (gR h a0 48), vi x2]) O dX12_pairs_43 ml_X12_382 st_yX12_pair ini_X12 co_yX12_pair yo_yX12_pair rfl rfl (Nat.le_of_ble_eq_true rfl) ⟨by decide, by decide, by decide, by decide⟩ (okX12_pair hw) (k_I fun r43 h43 hw => ?_)
      obtain ⟨c46, hw⟩ := hw
      refine g_zaload O dX12_pairs_46 c46.1 c46.2 ?_
      refine g_if_eq (tgt := 54) O dX12_pairs_47 rfl (fun q47 => ?_) (fun q47 => ?_)
      · have hw := hw.1 q47
        refine g_iconst O dX12_pairs_54 kv_0 ?_
        refine g_iadd O dX12_pairs_55 ?_
        refine g_istore_n (lc' := [some (vr a0), some (vi x1), some (vi (x2 + (0 : Int32))), some (vi x3), some (vi x4)]) O dX12_pairs_56 rfl (Nat.le_of_ble_eq_true rfl) rfl ?_
        refine g_iinc (lc' := [some (vr a0), some (vi x1), some (vi (x2 + (0 : Int32))), some (vi x3), some (vi (x4 + (1 : Int32)))]) O dX12_pairs_57 rfl kv_1 rfl rfl ?_
        refine g_goto (tgt := 23) O dX12_pairs_60 rfl ?_
        exact hB23 _ _ _ hw
      · have hw := hw.2 q47
        refine g_iconst O dX12_pairs_50 kv_1 ?_
        refine g_goto (tgt := 55) O dX12_pairs_51 rfl ?_
        refine g_iadd O dX12_pairs_55 ?_
        refine g_istore_n (lc' := [some (vr a0), some (vi x1), some (vi (x2 + (1 : Int32))), some (vi x3), some (vi x4)]) O dX12_pairs_56 rfl (Nat.le_of_ble_eq_true rfl) rfl ?_
        refine g_iinc (lc' := [some (vr a0), some (vi x1), some (vi (x2 + (1 : Int32))), some (vi x3), some (vi (x4 + (1 : Int32)))]) O dX12_pairs_57 rfl kv_1 rfl rfl ?_
        refine g_goto (tgt := 23) O dX12_pairs_60 rfl ?_
        exact hB23 _ _ _ hw
theorem okX12_pairs_4 {E : Ev} {X : Cx} {S : Sh} {Z : Option Nat} {Q : Int32 → Hp → Prop} {a0 : Nat} {x1 : Int32} (O : Ok E X yX12_pairs cX12_pairs 5 (some .int) 2 46 0 0 (qI S Z Q)) : ∀ (n : Nat) (h : Hp) (x2 : Int32) (x3 : Int32), wX12_pairs_4 S a0 x1 Q n h x2 x3 → G E X 0 0 S Z h 4 [some (vr a0), some (vi x1), some (vi x2), some (vi x3), none] [] := by
  intro n
  induction n with
  | zero => intro h x2 x3 hw; exact hw.elim
  | succ n hB4 =>
    intro h x2 x3 hw
    have hw : wX12_pairs_4b S a0 x1 Q (wX12_pairs_4 S a0 x1 Q n) h x2 x3 := hw
    unfold wX12_pairs_4b at hw
    refine g_iload_n O dX12_pairs_4 rfl ?_
    refine g_if_le (tgt := 69) O dX12_pairs_5 rfl (fun q5 => ?_) (fun q5 => ?_)
    · have hw := hw.1 q5
      refine g_iload_n O dX12_pairs_69 rfl ?_
      exact g_ireturn O dX12_pairs_70 ⟨rfl, rfl, _, rfl, hw⟩
    · have hw := hw.2 q5
      refine g_iload_n O dX12_pairs_8 rfl ?_
      refine g_aload_n O dX12_pairs_9 rfl ?_
      obtain ⟨c10, hw⟩ := hw
      refine gf_X12_sizes O dX12_pairs_10 fl_X12_36 c10 ?_
      refine g_iload_n O dX12_pairs_13 rfl ?_
      refine g_iconst O dX12_pairs_14 kv_1 ?_
      refine g_isub O dX12_pairs_15 ?_
      obtain ⟨c16, hw⟩ := hw
      refine g_iaload O dX12_pairs_16 c16.1 c16.2 ?_
      refine g_icmp_ge (tgt := 69) O dX12_pairs_17 rfl (fun q17 => ?_) (fun q17 => ?_)
      · have hw := hw.1 q17
        refine g_iload_n O dX12_pairs_69 rfl ?_
        exact g_ireturn O dX12_pairs_70 ⟨rfl, rfl, _, rfl, hw⟩
      · have hw := hw.2 q17
        refine g_iconst O dX12_pairs_20 kv_0 ?_
        refine g_istore (lc' := [some (vr a0), some (vi x1), some (vi x2), some (vi x3), some (vi (0 : Int32))]) O dX12_pairs_21 rfl (Nat.le_of_ble_eq_true rfl) rfl ?_
        obtain ⟨n23, hw⟩ := hw
        exact okX12_pairs_23 O hB4 n23 _ _ _ hw
theorem okX12_pairs {E : Ev} {S : Sh} {Z : Option Nat} {Q : Int32 → Hp → Prop} {h : Hp} {a0 : Nat} {x1 : Int32} (hw : wX12_pairs S h a0 x1 Q) : Ct E yX12_pairs cX12_pairs 5 (some .int) 2 46 0 0 S Z h [vr a0, vi x1] (qI S Z Q) := by
  refine Ct.of (by decide) (lc := [some (vr a0), some (vi x1), none, none, none]) (Nat.le_of_ble_eq_true rfl) rfl (fun X O => ?_)
  unfold wX12_pairs at hw
  refine g_iconst O dX12_pairs_0 kv_0 ?_
  refine g_istore_n (lc' := [some (vr a0), some (vi x1), some (vi (0 : Int32)), none, none]) O dX12_pairs_1 rfl (Nat.le_of_ble_eq_true rfl) rfl ?_
  refine g_iconst O dX12_pairs_2 kv_0 ?_
  refine g_istore_n (lc' := [some (vr a0), some (vi x1), some (vi (0 : Int32)), some (vi (0 : Int32)), none]) O dX12_pairs_3 rfl (Nat.le_of_ble_eq_true rfl) rfl ?_
  obtain ⟨n4, hw⟩ := hw
  exact okX12_pairs_4 O n4 _ _ _ hw
theorem dX12_machine_0 : decode cX12_machine 0 = .ok (.aload_n 0, 1) := by decide +kernel
theorem dX12_machine_1 : decode cX12_machine 1 = .ok (.iconst 0, 1) := by decide +kernel
theorem dX12_machine_2 : decode cX12_machine 2 = .ok (.putfield 121, 3) := by decide +kernel
theorem dX12_machine_5 : decode cX12_machine 5 = .ok (.aload_n 0, 1) := by decide +kernel
theorem dX12_machine_6 : decode cX12_machine 6 = .ok (.iload_n 1, 1) := by decide +kernel
theorem dX12_machine_7 : decode cX12_machine 7 = .ok (.invokevirtual 389, 3) := by decide +kernel
theorem dX12_machine_10 : decode cX12_machine 10 = .ok (.ifCond .ne 9, 3) := by decide +kernel
theorem dX12_machine_13 : decode cX12_machine 13 = .ok (.aload_n 0, 1) := by decide +kernel
theorem dX12_machine_14 : decode cX12_machine 14 = .ok (.iconst 1, 1) := by decide +kernel
theorem dX12_machine_15 : decode cX12_machine 15 = .ok (.invokevirtual 350, 3) := by decide +kernel
theorem dX12_machine_18 : decode cX12_machine 18 = .ok (.ireturn, 1) := by decide +kernel
theorem dX12_machine_19 : decode cX12_machine 19 = .ok (.iconst 0, 1) := by decide +kernel
theorem dX12_machine_20 : decode cX12_machine 20 = .ok (.istore_n 3, 1) := by decide +kernel
theorem dX12_machine_21 : decode cX12_machine 21 = .ok (.iload_n 2, 1) := by decide +kernel
theorem dX12_machine_22 : decode cX12_machine 22 = .ok (.tableswitch 233 0 8 #[50, 61, 72, 83, 94, 104, 124, 173, 183], 50) := by decide +kernel
theorem dX12_machine_72 : decode cX12_machine 72 = .ok (.aload_n 0, 1) := by decide +kernel
theorem dX12_machine_73 : decode cX12_machine 73 = .ok (.aload_n 0, 1) := by decide +kernel
theorem dX12_machine_74 : decode cX12_machine 74 = .ok (.getfield 27, 3) := by decide +kernel
theorem dX12_machine_77 : decode cX12_machine 77 = .ok (.iload_n 1, 1) := by decide +kernel
theorem dX12_machine_78 : decode cX12_machine 78 = .ok (.iaload, 1) := by decide +kernel
theorem dX12_machine_79 : decode cX12_machine 79 = .ok (.invokevirtual 365, 3) := by decide +kernel
theorem dX12_machine_82 : decode cX12_machine 82 = .ok (.ireturn, 1) := by decide +kernel
theorem dX12_machine_83 : decode cX12_machine 83 = .ok (.aload_n 0, 1) := by decide +kernel
theorem dX12_machine_84 : decode cX12_machine 84 = .ok (.aload_n 0, 1) := by decide +kernel
theorem dX12_machine_85 : decode cX12_machine 85 = .ok (.getfield 30, 3) := by decide +kernel
theorem dX12_machine_88 : decode cX12_machine 88 = .ok (.iload_n 1, 1) := by decide +kernel
theorem dX12_machine_89 : decode cX12_machine 89 = .ok (.iaload, 1) := by decide +kernel
theorem dX12_machine_90 : decode cX12_machine 90 = .ok (.invokevirtual 365, 3) := by decide +kernel
theorem dX12_machine_93 : decode cX12_machine 93 = .ok (.ireturn, 1) := by decide +kernel
theorem dX12_machine_94 : decode cX12_machine 94 = .ok (.aload_n 0, 1) := by decide +kernel
theorem dX12_machine_95 : decode cX12_machine 95 = .ok (.aload_n 0, 1) := by decide +kernel
theorem dX12_machine_96 : decode cX12_machine 96 = .ok (.getfield 33, 3) := by decide +kernel
theorem dX12_machine_99 : decode cX12_machine 99 = .ok (.iload_n 1, 1) := by decide +kernel
theorem dX12_machine_100 : decode cX12_machine 100 = .ok (.iaload, 1) := by decide +kernel
theorem dX12_machine_101 : decode cX12_machine 101 = .ok (.invokevirtual 365, 3) := by decide +kernel
theorem dX12_machine_104 : decode cX12_machine 104 = .ok (.ireturn, 1) := by decide +kernel
theorem dX12_machine_105 : decode cX12_machine 105 = .ok (.aload_n 0, 1) := by decide +kernel
theorem dX12_machine_106 : decode cX12_machine 106 = .ok (.aload_n 0, 1) := by decide +kernel
theorem dX12_machine_107 : decode cX12_machine 107 = .ok (.getfield 36, 3) := by decide +kernel
theorem dX12_machine_110 : decode cX12_machine 110 = .ok (.iload_n 1, 1) := by decide +kernel
theorem dX12_machine_111 : decode cX12_machine 111 = .ok (.iaload, 1) := by decide +kernel
theorem dX12_machine_112 : decode cX12_machine 112 = .ok (.invokevirtual 365, 3) := by decide +kernel
theorem dX12_machine_115 : decode cX12_machine 115 = .ok (.ireturn, 1) := by decide +kernel
theorem dX12_machine_116 : decode cX12_machine 116 = .ok (.aload_n 0, 1) := by decide +kernel
theorem dX12_machine_117 : decode cX12_machine 117 = .ok (.aload_n 0, 1) := by decide +kernel
theorem dX12_machine_118 : decode cX12_machine 118 = .ok (.iload_n 1, 1) := by decide +kernel
theorem dX12_machine_119 : decode cX12_machine 119 = .ok (.invokevirtual 392, 3) := by decide +kernel
theorem dX12_machine_122 : decode cX12_machine 122 = .ok (.invokevirtual 365, 3) := by decide +kernel
theorem dX12_machine_125 : decode cX12_machine 125 = .ok (.ireturn, 1) := by decide +kernel
theorem dX12_machine_126 : decode cX12_machine 126 = .ok (.aload_n 0, 1) := by decide +kernel
theorem dX12_machine_127 : decode cX12_machine 127 = .ok (.aload_n 0, 1) := by decide +kernel
theorem dX12_machine_128 : decode cX12_machine 128 = .ok (.getfield 39, 3) := by decide +kernel
theorem dX12_machine_131 : decode cX12_machine 131 = .ok (.iload_n 1, 1) := by decide +kernel
theorem dX12_machine_132 : decode cX12_machine 132 = .ok (.iaload, 1) := by decide +kernel
theorem dX12_machine_133 : decode cX12_machine 133 = .ok (.iconst (-1), 1) := by decide +kernel
theorem dX12_machine_134 : decode cX12_machine 134 = .ok (.if_icmp .ne 7, 3) := by decide +kernel
theorem dX12_machine_137 : decode cX12_machine 137 = .ok (.iconst 0, 1) := by decide +kernel
theorem dX12_machine_138 : decode cX12_machine 138 = .ok (.goto 4, 3) := by decide +kernel
theorem dX12_machine_141 : decode cX12_machine 141 = .ok (.iconst 1, 1) := by decide +kernel
theorem dX12_machine_142 : decode cX12_machine 142 = .ok (.invokevirtual 365, 3) := by decide +kernel
theorem dX12_machine_145 : decode cX12_machine 145 = .ok (.ireturn, 1) := by decide +kernel
theorem dX12_machine_146 : decode cX12_machine 146 = .ok (.iconst 0, 1) := by decide +kernel
theorem dX12_machine_147 : decode cX12_machine 147 = .ok (.istore 4, 2) := by decide +kernel
theorem dX12_machine_149 : decode cX12_machine 149 = .ok (.iload 4, 2) := by decide +kernel
theorem dX12_machine_151 : decode cX12_machine 151 = .ok (.aload_n 0, 1) := by decide +kernel
theorem dX12_machine_152 : decode cX12_machine 152 = .ok (.getfield 36, 3) := by decide +kernel
theorem dX12_machine_155 : decode cX12_machine 155 = .ok (.iload_n 1, 1) := by decide +kernel
theorem dX12_machine_156 : decode cX12_machine 156 = .ok (.iaload, 1) := by decide +kernel
theorem dX12_machine_157 : decode cX12_machine 157 = .ok (.if_icmp .ge 32, 3) := by decide +kernel
theorem dX12_machine_160 : decode cX12_machine 160 = .ok (.iload_n 3, 1) := by decide +kernel
theorem dX12_machine_161 : decode cX12_machine 161 = .ok (.aload_n 0, 1) := by decide +kernel
theorem dX12_machine_162 : decode cX12_machine 162 = .ok (.getfield 97, 3) := by decide +kernel
theorem dX12_machine_165 : decode cX12_machine 165 = .ok (.bipush 100, 2) := by decide +kernel
theorem dX12_machine_167 : decode cX12_machine 167 = .ok (.iload_n 1, 1) := by decide +kernel
theorem dX12_machine_168 : decode cX12_machine 168 = .ok (.imul, 1) := by decide +kernel
theorem dX12_machine_169 : decode cX12_machine 169 = .ok (.iload 4, 2) := by decide +kernel
theorem dX12_machine_171 : decode cX12_machine 171 = .ok (.iadd, 1) := by decide +kernel
theorem dX12_machine_172 : decode cX12_machine 172 = .ok (.baload, 1) := by decide +kernel
theorem dX12_machine_173 : decode cX12_machine 173 = .ok (.ifCond .eq 7, 3) := by decide +kernel
theorem dX12_machine_176 : decode cX12_machine 176 = .ok (.iconst 1, 1) := by decide +kernel
theorem dX12_machine_177 : decode cX12_machine 177 = .ok (.goto 4, 3) := by decide +kernel
theorem dX12_machine_180 : decode cX12_machine 180 = .ok (.iconst 0, 1) := by decide +kernel
theorem dX12_machine_181 : decode cX12_machine 181 = .ok (.iadd, 1) := by decide +kernel
theorem dX12_machine_182 : decode cX12_machine 182 = .ok (.istore_n 3, 1) := by decide +kernel
theorem dX12_machine_183 : decode cX12_machine 183 = .ok (.iinc 4 1, 3) := by decide +kernel
theorem dX12_machine_186 : decode cX12_machine 186 = .ok (.goto (-37), 3) := by decide +kernel
theorem dX12_machine_189 : decode cX12_machine 189 = .ok (.aload_n 0, 1) := by decide +kernel
theorem dX12_machine_190 : decode cX12_machine 190 = .ok (.iload_n 3, 1) := by decide +kernel
theorem dX12_machine_191 : decode cX12_machine 191 = .ok (.invokevirtual 365, 3) := by decide +kernel
theorem dX12_machine_194 : decode cX12_machine 194 = .ok (.ireturn, 1) := by decide +kernel
theorem dX12_machine_195 : decode cX12_machine 195 = .ok (.aload_n 0, 1) := by decide +kernel
theorem dX12_machine_196 : decode cX12_machine 196 = .ok (.aload_n 0, 1) := by decide +kernel
theorem dX12_machine_197 : decode cX12_machine 197 = .ok (.iload_n 1, 1) := by decide +kernel
theorem dX12_machine_198 : decode cX12_machine 198 = .ok (.invokevirtual 395, 3) := by decide +kernel
theorem dX12_machine_201 : decode cX12_machine 201 = .ok (.invokevirtual 365, 3) := by decide +kernel
theorem dX12_machine_204 : decode cX12_machine 204 = .ok (.ireturn, 1) := by decide +kernel
theorem dX12_machine_205 : decode cX12_machine 205 = .ok (.iconst 0, 1) := by decide +kernel
theorem dX12_machine_206 : decode cX12_machine 206 = .ok (.istore 4, 2) := by decide +kernel
theorem dX12_machine_208 : decode cX12_machine 208 = .ok (.iload 4, 2) := by decide +kernel
theorem dX12_machine_210 : decode cX12_machine 210 = .ok (.aload_n 0, 1) := by decide +kernel
theorem dX12_machine_211 : decode cX12_machine 211 = .ok (.getfield 33, 3) := by decide +kernel
theorem dX12_machine_214 : decode cX12_machine 214 = .ok (.iload_n 1, 1) := by decide +kernel
theorem dX12_machine_215 : decode cX12_machine 215 = .ok (.iaload, 1) := by decide +kernel
theorem dX12_machine_216 : decode cX12_machine 216 = .ok (.if_icmp .ge 33, 3) := by decide +kernel
theorem dX12_machine_219 : decode cX12_machine 219 = .ok (.iload_n 3, 1) := by decide +kernel
theorem dX12_machine_220 : decode cX12_machine 220 = .ok (.aload_n 0, 1) := by decide +kernel
theorem dX12_machine_221 : decode cX12_machine 221 = .ok (.getfield 60, 3) := by decide +kernel
theorem dX12_machine_224 : decode cX12_machine 224 = .ok (.iconst 4, 1) := by decide +kernel
theorem dX12_machine_225 : decode cX12_machine 225 = .ok (.iload_n 1, 1) := by decide +kernel
theorem dX12_machine_226 : decode cX12_machine 226 = .ok (.imul, 1) := by decide +kernel
theorem dX12_machine_227 : decode cX12_machine 227 = .ok (.iload 4, 2) := by decide +kernel
theorem dX12_machine_229 : decode cX12_machine 229 = .ok (.iadd, 1) := by decide +kernel
theorem dX12_machine_230 : decode cX12_machine 230 = .ok (.iaload, 1) := by decide +kernel
theorem dX12_machine_231 : decode cX12_machine 231 = .ok (.bipush (-2), 2) := by decide +kernel
theorem dX12_machine_233 : decode cX12_machine 233 = .ok (.if_icmp .ne 7, 3) := by decide +kernel
theorem dX12_machine_236 : decode cX12_machine 236 = .ok (.iconst 1, 1) := by decide +kernel
theorem dX12_machine_237 : decode cX12_machine 237 = .ok (.goto 4, 3) := by decide +kernel
theorem dX12_machine_240 : decode cX12_machine 240 = .ok (.iconst 0, 1) := by decide +kernel
theorem dX12_machine_241 : decode cX12_machine 241 = .ok (.iadd, 1) := by decide +kernel
theorem dX12_machine_242 : decode cX12_machine 242 = .ok (.istore_n 3, 1) := by decide +kernel
theorem dX12_machine_243 : decode cX12_machine 243 = .ok (.iinc 4 1, 3) := by decide +kernel
theorem dX12_machine_246 : decode cX12_machine 246 = .ok (.goto (-38), 3) := by decide +kernel
theorem dX12_machine_249 : decode cX12_machine 249 = .ok (.aload_n 0, 1) := by decide +kernel
theorem dX12_machine_250 : decode cX12_machine 250 = .ok (.iload_n 3, 1) := by decide +kernel
theorem dX12_machine_251 : decode cX12_machine 251 = .ok (.invokevirtual 365, 3) := by decide +kernel
theorem dX12_machine_254 : decode cX12_machine 254 = .ok (.ireturn, 1) := by decide +kernel
theorem dX12_machine_255 : decode cX12_machine 255 = .ok (.aload_n 0, 1) := by decide +kernel
theorem dX12_machine_256 : decode cX12_machine 256 = .ok (.iconst 1, 1) := by decide +kernel
theorem dX12_machine_257 : decode cX12_machine 257 = .ok (.invokevirtual 350, 3) := by decide +kernel
theorem dX12_machine_260 : decode cX12_machine 260 = .ok (.ireturn, 1) := by decide +kernel
theorem okX12_machine_208 {E : Ev} {X : Cx} {S : Sh} {Z : Option Nat} {Q : Int32 → Hp → Prop} {a0 : Nat} {x1 : Int32} (O : Ok E X yX12_machine cX12_machine 5 (some .int) 3 70 0 0 (qI S Z Q)) : ∀ (n : Nat) (h : Hp) (x3 : Int32) (x4 : Int32), wX12_machine_208 S a0 x1 Q n h x3 x4 → G E X 0 0 S Z h 208 [some (vr a0), some (vi x1), none, some (vi x3), some (vi x4)] [] := by
  intro n
  induction n with
  | zero => intro h x3 x4 hw; exact hw.elim
  | succ n hB208 =>
    intro h x3 x4 hw
    have hw : wX12_machine_208b S a0 x1 Q (wX12_machine_208 S a0 x1 Q n) h x3 x4 := hw
    unfold wX12_machine_208b at hw
    refine g_iload O dX12_machine_208 rfl ?_
    refine g_aload_n O dX12_machine_210 rfl ?_
    obtain ⟨c211, hw⟩ := hw
    refine gf_X12_eventMany O dX12_machine_211 fl_X12_33 c211 ?_
    refine g_iload_n O dX12_machine_214 rfl ?_
    obtain ⟨c215, hw⟩ := hw
    refine g_iaload O dX12_machine_215 c215.1 c215.2 ?_
    refine g_icmp_ge (tgt := 249) O dX12_machine_216 rfl (fun q216 => ?_) (fun q216 => ?_)
    · have hw := hw.1 q216
      refine g_aload_n O dX12_machine_249 rfl ?_
      refine g_iload_n O dX12_machine_250 rfl ?_
      refine g_callV (As := [vi x3]) (rest := []) O ci_12 rfl dX12_machine_251 ml_X12_365 im_yX12_good se_yX12_good ini_X12 co_yX12_good yo_yX12_good c211 rfl rfl (Nat.le_of_ble_eq_true rfl) ⟨by decide, by decide, by decide, by decide⟩ (okX12_good hw) (k_I fun r251 h251 hw => ?_)
      exact g_ireturn O dX12_machine_254 ⟨rfl, rfl, _, rfl, hw⟩
    · have hw := hw.2 q216
      refine g_iload_n O dX12_machine_219 rfl ?_
      refine g_aload_n O dX12_machine_220 rfl ?_
      refine gf_X12_eventOf O dX12_machine_221 fl_X12_60 c211 ?_
      refine g_iconst O dX12_machine_224 kv_4 ?_
      refine g_iload_n O dX12_machine_225 rfl ?_
      refine g_imul O dX12_machine_226 ?_
      refine g_iload O dX12_machine_227 rfl ?_
      refine g_iadd O dX12_machine_229 ?_
      obtain ⟨c230, hw⟩ := hw
      refine g_iaload O dX12_machine_230 c230.1 c230.2 ?_
      refine g_bipush O dX12_machine_231 kb_m2 ?_
      refine g_icmp_ne (tgt := 240) O dX12_machine_233 rfl (fun q233 => ?_) (fun q233 => ?_)
      · have hw := hw.1 q233
        refine g_iconst O dX12_machine_240 kv_0 ?_
        refine g_iadd O dX12_machine_241 ?_
        refine g_istore_n (lc' := [some (vr a0), some (vi x1), none, some (vi (x3 + (0 : Int32))), some (vi x4)]) O dX12_machine_242 rfl (Nat.le_of_ble_eq_true rfl) rfl ?_
        refine g_iinc (lc' := [some (vr a0), some (vi x1), none, some (vi (x3 + (0 : Int32))), some (vi (x4 + (1 : Int32)))]) O dX12_machine_243 rfl kv_1 rfl rfl ?_
        refine g_goto (tgt := 208) O dX12_machine_246 rfl ?_
        exact hB208 _ _ _ hw
      · have hw := hw.2 q233
        refine g_iconst O dX12_machine_236 kv_1 ?_
        refine g_goto (tgt := 241) O dX12_machine_237 rfl ?_
        refine g_iadd O dX12_machine_241 ?_
        refine g_istore_n (lc' := [some (vr a0), some (vi x1), none, some (vi (x3 + (1 : Int32))), some (vi x4)]) O dX12_machine_242 rfl (Nat.le_of_ble_eq_true rfl) rfl ?_
        refine g_iinc (lc' := [some (vr a0), some (vi x1), none, some (vi (x3 + (1 : Int32))), some (vi (x4 + (1 : Int32)))]) O dX12_machine_243 rfl kv_1 rfl rfl ?_
        refine g_goto (tgt := 208) O dX12_machine_246 rfl ?_
        exact hB208 _ _ _ hw
theorem okX12_machine_149 {E : Ev} {X : Cx} {S : Sh} {Z : Option Nat} {Q : Int32 → Hp → Prop} {a0 : Nat} {x1 : Int32} (O : Ok E X yX12_machine cX12_machine 5 (some .int) 3 70 0 0 (qI S Z Q)) : ∀ (n : Nat) (h : Hp) (x3 : Int32) (x4 : Int32), wX12_machine_149 S a0 x1 Q n h x3 x4 → G E X 0 0 S Z h 149 [some (vr a0), some (vi x1), none, some (vi x3), some (vi x4)] [] := by
  intro n
  induction n with
  | zero => intro h x3 x4 hw; exact hw.elim
  | succ n hB149 =>
    intro h x3 x4 hw
    have hw : wX12_machine_149b S a0 x1 Q (wX12_machine_149 S a0 x1 Q n) h x3 x4 := hw
    unfold wX12_machine_149b at hw
    refine g_iload O dX12_machine_149 rfl ?_
    refine g_aload_n O dX12_machine_151 rfl ?_
    obtain ⟨c152, hw⟩ := hw
    refine gf_X12_sizes O dX12_machine_152 fl_X12_36 c152 ?_
    refine g_iload_n O dX12_machine_155 rfl ?_
    obtain ⟨c156, hw⟩ := hw
    refine g_iaload O dX12_machine_156 c156.1 c156.2 ?_
    refine g_icmp_ge (tgt := 189) O dX12_machine_157 rfl (fun q157 => ?_) (fun q157 => ?_)
    · have hw := hw.1 q157
      refine g_aload_n O dX12_machine_189 rfl ?_
      refine g_iload_n O dX12_machine_190 rfl ?_
      refine g_callV (As := [vi x3]) (rest := []) O ci_12 rfl dX12_machine_191 ml_X12_365 im_yX12_good se_yX12_good ini_X12 co_yX12_good yo_yX12_good c152 rfl rfl (Nat.le_of_ble_eq_true rfl) ⟨by decide, by decide, by decide, by decide⟩ (okX12_good hw) (k_I fun r191 h191 hw => ?_)
      exact g_ireturn O dX12_machine_194 ⟨rfl, rfl, _, rfl, hw⟩
    · have hw := hw.2 q157
      refine g_iload_n O dX12_machine_160 rfl ?_
      refine g_aload_n O dX12_machine_161 rfl ?_
      refine gf_X12_isSound O dX12_machine_162 fl_X12_97 c152 ?_
      refine g_bipush O dX12_machine_165 kb_100 ?_
      refine g_iload_n O dX12_machine_167 rfl ?_
      refine g_imul O dX12_machine_168 ?_
      refine g_iload O dX12_machine_169 rfl ?_
      refine g_iadd O dX12_machine_171 ?_
      obtain ⟨c172, hw⟩ := hw
      refine g_zaload O dX12_machine_172 c172.1 c172.2 ?_
      refine g_if_eq (tgt := 180) O dX12_machine_173 rfl (fun q173 => ?_) (fun q173 => ?_)
      · have hw := hw.1 q173
        refine g_iconst O dX12_machine_180 kv_0 ?_
        refine g_iadd O dX12_machine_181 ?_
        refine g_istore_n (lc' := [some (vr a0), some (vi x1), none, some (vi (x3 + (0 : Int32))), some (vi x4)]) O dX12_machine_182 rfl (Nat.le_of_ble_eq_true rfl) rfl ?_
        refine g_iinc (lc' := [some (vr a0), some (vi x1), none, some (vi (x3 + (0 : Int32))), some (vi (x4 + (1 : Int32)))]) O dX12_machine_183 rfl kv_1 rfl rfl ?_
        refine g_goto (tgt := 149) O dX12_machine_186 rfl ?_
        exact hB149 _ _ _ hw
      · have hw := hw.2 q173
        refine g_iconst O dX12_machine_176 kv_1 ?_
        refine g_goto (tgt := 181) O dX12_machine_177 rfl ?_
        refine g_iadd O dX12_machine_181 ?_
        refine g_istore_n (lc' := [some (vr a0), some (vi x1), none, some (vi (x3 + (1 : Int32))), some (vi x4)]) O dX12_machine_182 rfl (Nat.le_of_ble_eq_true rfl) rfl ?_
        refine g_iinc (lc' := [some (vr a0), some (vi x1), none, some (vi (x3 + (1 : Int32))), some (vi (x4 + (1 : Int32)))]) O dX12_machine_183 rfl kv_1 rfl rfl ?_
        refine g_goto (tgt := 149) O dX12_machine_186 rfl ?_
        exact hB149 _ _ _ hw
theorem okX12_machine {E : Ev} {S : Sh} {Z : Option Nat} {Q : Int32 → Hp → Prop} {h : Hp} {a0 : Nat} {x1 : Int32} {x2 : Int32} (hw : wX12_machine S h a0 x1 x2 Q) : Ct E yX12_machine cX12_machine 5 (some .int) 3 70 0 0 S Z h [vr a0, vi x1, vi x2] (qI S Z Q) := by
  refine Ct.of (by decide) (lc := [some (vr a0), some (vi x1), some (vi x2), none, none]) (Nat.le_of_ble_eq_true rfl) rfl (fun X O => ?_)
  unfold wX12_machine at hw
  refine g_aload_n O dX12_machine_0 rfl ?_
  refine g_iconst O dX12_machine_1 kv_0 ?_
  obtain ⟨c2, hw⟩ := hw
  refine pf_X12_thrown O dX12_machine_2 fl_X12_121 c2 ?_
  refine g_aload_n O dX12_machine_5 rfl ?_
  refine g_iload_n O dX12_machine_6 rfl ?_
  refine g_callV (As := [vi x1]) (rest := []) O ci_12 rfl dX12_machine_7 ml_X12_389 im_yX12_isMachine se_yX12_isMachine ini_X12 co_yX12_isMachine yo_yX12_isMachine c2 rfl rfl (Nat.le_of_ble_eq_true rfl) ⟨by decide, by decide, by decide, by decide⟩ (okX12_isMachine hw) (k_I fun r7 h7 hw => ?_)
  refine g_if_ne (tgt := 19) O dX12_machine_10 rfl (fun q10 => ?_) (fun q10 => ?_)
  · have hw := hw.1 q10
    refine g_iconst O dX12_machine_19 kv_0 ?_
    refine g_istore_n (lc' := [some (vr a0), some (vi x1), some (vi x2), some (vi (0 : Int32)), none]) O dX12_machine_20 rfl (Nat.le_of_ble_eq_true rfl) rfl ?_
    refine g_iload_n O dX12_machine_21 rfl ?_
    refine g_tsw O dX12_machine_22 (by decide) (by decide) (fun t22 ht => ?_)
    rcases ht with ⟨hx22, ht⟩ | ⟨hx22, ht⟩
    · obtain rfl : t22 = 72 := by have e : (22 : Int) + (50) = (t22 : Int) := ht; omega
      have hw := hw.1 (Int32.toInt_inj.mp hx22)
      refine g_aload_n O dX12_machine_72 rfl ?_
      refine g_aload_n O dX12_machine_73 rfl ?_
      refine gf_X12_varMany O dX12_machine_74 fl_X12_27 c2 ?_
      refine g_iload_n O dX12_machine_77 rfl ?_
      obtain ⟨c78, hw⟩ := hw
      refine g_iaload O dX12_machine_78 c78.1 c78.2 ?_
      refine g_callV (As := [vi ((gI h7 (gR h7 a0 17) (ix x1)))]) (rest := []) O ci_12 rfl dX12_machine_79 ml_X12_365 im_yX12_good se_yX12_good ini_X12 co_yX12_good yo_yX12_good c2 rfl rfl (Nat.le_of_ble_eq_true rfl) ⟨by decide, by decide, by decide, by decide⟩ (okX12_good hw) (k_I fun r79 h79 hw => ?_)
      exact g_ireturn O dX12_machine_82 ⟨rfl, rfl, _, rfl, hw⟩
    · have hw := hw.2 (fun q => hx22 (by rw [q]; rfl))
      rcases ht with ⟨hx22, ht⟩ | ⟨hx22, ht⟩
      · obtain rfl : t22 = 83 := by have e : (22 : Int) + (61) = (t22 : Int) := ht; omega
        have hw := hw.1 (Int32.toInt_inj.mp hx22)
        refine g_aload_n O dX12_machine_83 rfl ?_
        refine g_aload_n O dX12_machine_84 rfl ?_
        refine gf_X12_lawMany O dX12_machine_85 fl_X12_30 c2 ?_
        refine g_iload_n O dX12_machine_88 rfl ?_
        obtain ⟨c89, hw⟩ := hw
        refine g_iaload O dX12_machine_89 c89.1 c89.2 ?_
        refine g_callV (As := [vi ((gI h7 (gR h7 a0 18) (ix x1)))]) (rest := []) O ci_12 rfl dX12_machine_90 ml_X12_365 im_yX12_good se_yX12_good ini_X12 co_yX12_good yo_yX12_good c2 rfl rfl (Nat.le_of_ble_eq_true rfl) ⟨by decide, by decide, by decide, by decide⟩ (okX12_good hw) (k_I fun r90 h90 hw => ?_)
        exact g_ireturn O dX12_machine_93 ⟨rfl, rfl, _, rfl, hw⟩
      · have hw := hw.2 (fun q => hx22 (by rw [q]; rfl))
        rcases ht with ⟨hx22, ht⟩ | ⟨hx22, ht⟩
        · obtain rfl : t22 = 94 := by have e : (22 : Int) + (72) = (t22 : Int) := ht; omega
          have hw := hw.1 (Int32.toInt_inj.mp hx22)
          refine g_aload_n O dX12_machine_94 rfl ?_
          refine g_aload_n O dX12_machine_95 rfl ?_
          refine gf_X12_eventMany O dX12_machine_96 fl_X12_33 c2 ?_
          refine g_iload_n O dX12_machine_99 rfl ?_
          obtain ⟨c100, hw⟩ := hw
          refine g_iaload O dX12_machine_100 c100.1 c100.2 ?_
          refine g_callV (As := [vi ((gI h7 (gR h7 a0 19) (ix x1)))]) (rest := []) O ci_12 rfl dX12_machine_101 ml_X12_365 im_yX12_good se_yX12_good ini_X12 co_yX12_good yo_yX12_good c2 rfl rfl (Nat.le_of_ble_eq_true rfl) ⟨by decide, by decide, by decide, by decide⟩ (okX12_good hw) (k_I fun r101 h101 hw => ?_)
          exact g_ireturn O dX12_machine_104 ⟨rfl, rfl, _, rfl, hw⟩
        · have hw := hw.2 (fun q => hx22 (by rw [q]; rfl))
          rcases ht with ⟨hx22, ht⟩ | ⟨hx22, ht⟩
          · obtain rfl : t22 = 105 := by have e : (22 : Int) + (83) = (t22 : Int) := ht; omega
            have hw := hw.1 (Int32.toInt_inj.mp hx22)
            refine g_aload_n O dX12_machine_105 rfl ?_
            refine g_aload_n O dX12_machine_106 rfl ?_
            refine gf_X12_sizes O dX12_machine_107 fl_X12_36 c2 ?_
            refine g_iload_n O dX12_machine_110 rfl ?_
            obtain ⟨c111, hw⟩ := hw
            refine g_iaload O dX12_machine_111 c111.1 c111.2 ?_
            refine g_callV (As := [vi ((gI h7 (gR h7 a0 20) (ix x1)))]) (rest := []) O ci_12 rfl dX12_machine_112 ml_X12_365 im_yX12_good se_yX12_good ini_X12 co_yX12_good yo_yX12_good c2 rfl rfl (Nat.le_of_ble_eq_true rfl) ⟨by decide, by decide, by decide, by decide⟩ (okX12_good hw) (k_I fun r112 h112 hw => ?_)
            exact g_ireturn O dX12_machine_115 ⟨rfl, rfl, _, rfl, hw⟩
          · have hw := hw.2 (fun q => hx22 (by rw [q]; rfl))
            rcases ht with ⟨hx22, ht⟩ | ⟨hx22, ht⟩
            · obtain rfl : t22 = 116 := by have e : (22 : Int) + (94) = (t22 : Int) := ht; omega
              have hw := hw.1 (Int32.toInt_inj.mp hx22)
              refine g_aload_n O dX12_machine_116 rfl ?_
              refine g_aload_n O dX12_machine_117 rfl ?_
              refine g_iload_n O dX12_machine_118 rfl ?_
              refine g_callV (As := [vi x1]) (rest := [vr a0]) O ci_12 rfl dX12_machine_119 ml_X12_392 im_yX12_beginOf se_yX12_beginOf ini_X12 co_yX12_beginOf yo_yX12_beginOf c2 rfl rfl (Nat.le_of_ble_eq_true rfl) ⟨by decide, by decide, by decide, by decide⟩ (okX12_beginOf hw) (k_I fun r119 h119 hw => ?_)
              refine g_callV (As := [vi r119]) (rest := []) O ci_12 rfl dX12_machine_122 ml_X12_365 im_yX12_good se_yX12_good ini_X12 co_yX12_good yo_yX12_good c2 rfl rfl (Nat.le_of_ble_eq_true rfl) ⟨by decide, by decide, by decide, by decide⟩ (okX12_good hw) (k_I fun r122 h122 hw => ?_)
              exact g_ireturn O dX12_machine_125 ⟨rfl, rfl, _, rfl, hw⟩
            · have hw := hw.2 (fun q => hx22 (by rw [q]; rfl))
              rcases ht with ⟨hx22, ht⟩ | ⟨hx22, ht⟩
              · obtain rfl : t22 = 126 := by have e : (22 : Int) + (104) = (t22 : Int) := ht; omega
                have hw := hw.1 (Int32.toInt_inj.mp hx22)
                refine g_aload_n O dX12_machine_126 rfl ?_
                refine g_aload_n O dX12_machine_127 rfl ?_
                refine gf_X12_variantFrom O dX12_machine_128 fl_X12_39 c2 ?_
                refine g_iload_n O dX12_machine_131 rfl ?_
                obtain ⟨c132, hw⟩ := hw
                refine g_iaload O dX12_machine_132 c132.1 c132.2 ?_
                refine g_iconst O dX12_machine_133 kv_m1 ?_
                refine g_icmp_ne (tgt := 141) O dX12_machine_134 rfl (fun q134 => ?_) (fun q134 => ?_)
                · have hw := hw.1 q134
                  refine g_iconst O dX12_machine_141 kv_1 ?_
                  refine g_callV (As := [vi (1 : Int32)]) (rest := []) O ci_12 rfl dX12_machine_142 ml_X12_365 im_yX12_good se_yX12_good ini_X12 co_yX12_good yo_yX12_good c2 rfl rfl (Nat.le_of_ble_eq_true rfl) ⟨by decide, by decide, by decide, by decide⟩ (okX12_good hw) (k_I fun r142 h142 hw => ?_)
                  exact g_ireturn O dX12_machine_145 ⟨rfl, rfl, _, rfl, hw⟩
                · have hw := hw.2 q134
                  refine g_iconst O dX12_machine_137 kv_0 ?_
                  refine g_goto (tgt := 142) O dX12_machine_138 rfl ?_
                  refine g_callV (As := [vi (0 : Int32)]) (rest := []) O ci_12 rfl dX12_machine_142 ml_X12_365 im_yX12_good se_yX12_good ini_X12 co_yX12_good yo_yX12_good c2 rfl rfl (Nat.le_of_ble_eq_true rfl) ⟨by decide, by decide, by decide, by decide⟩ (okX12_good hw) (k_I fun r142 h142 hw => ?_)
                  exact g_ireturn O dX12_machine_145 ⟨rfl, rfl, _, rfl, hw⟩
              · have hw := hw.2 (fun q => hx22 (by rw [q]; rfl))
                rcases ht with ⟨hx22, ht⟩ | ⟨hx22, ht⟩
                · obtain rfl : t22 = 146 := by have e : (22 : Int) + (124) = (t22 : Int) := ht; omega
                  have hw := hw.1 (Int32.toInt_inj.mp hx22)
                  refine g_iconst O dX12_machine_146 kv_0 ?_
                  refine g_istore (lc' := [some (vr a0), some (vi x1), some (vi x2), some (vi (0 : Int32)), some (vi (0 : Int32))]) O dX12_machine_147 rfl (Nat.le_of_ble_eq_true rfl) rfl ?_
                  refine g_mask [true, true, false, true, true] rfl rfl ?_
                  obtain ⟨n149, hw⟩ := hw
                  exact okX12_machine_149 O n149 _ _ _ hw
                · have hw := hw.2 (fun q => hx22 (by rw [q]; rfl))
                  rcases ht with ⟨hx22, ht⟩ | ⟨hx22, ht⟩
                  · obtain rfl : t22 = 195 := by have e : (22 : Int) + (173) = (t22 : Int) := ht; omega
                    have hw := hw.1 (Int32.toInt_inj.mp hx22)
                    refine g_aload_n O dX12_machine_195 rfl ?_
                    refine g_aload_n O dX12_machine_196 rfl ?_
                    refine g_iload_n O dX12_machine_197 rfl ?_
                    refine g_callV (As := [vi x1]) (rest := [vr a0]) O ci_12 rfl dX12_machine_198 ml_X12_395 im_yX12_pairs se_yX12_pairs ini_X12 co_yX12_pairs yo_yX12_pairs c2 rfl rfl (Nat.le_of_ble_eq_true rfl) ⟨by decide, by decide, by decide, by decide⟩ (okX12_pairs hw) (k_I fun r198 h198 hw => ?_)
                    refine g_callV (As := [vi r198]) (rest := []) O ci_12 rfl dX12_machine_201 ml_X12_365 im_yX12_good se_yX12_good ini_X12 co_yX12_good yo_yX12_good c2 rfl rfl (Nat.le_of_ble_eq_true rfl) ⟨by decide, by decide, by decide, by decide⟩ (okX12_good hw) (k_I fun r201 h201 hw => ?_)
                    exact g_ireturn O dX12_machine_204 ⟨rfl, rfl, _, rfl, hw⟩
                  · have hw := hw.2 (fun q => hx22 (by rw [q]; rfl))
                    rcases ht with ⟨hx22, ht⟩ | ⟨hx22, ht⟩
                    · obtain rfl : t22 = 205 := by have e : (22 : Int) + (183) = (t22 : Int) := ht; omega
                      have hw := hw.1 (Int32.toInt_inj.mp hx22)
                      refine g_iconst O dX12_machine_205 kv_0 ?_
                      refine g_istore (lc' := [some (vr a0), some (vi x1), some (vi x2), some (vi (0 : Int32)), some (vi (0 : Int32))]) O dX12_machine_206 rfl (Nat.le_of_ble_eq_true rfl) rfl ?_
                      refine g_mask [true, true, false, true, true] rfl rfl ?_
                      obtain ⟨n208, hw⟩ := hw
                      exact okX12_machine_208 O n208 _ _ _ hw
                    · have hw := hw.2 (fun q => hx22 (by rw [q]; rfl))
                      obtain rfl : t22 = 255 := by have e : (22 : Int) + (233) = (t22 : Int) := ht; omega
                      refine g_aload_n O dX12_machine_255 rfl ?_
                      refine g_iconst O dX12_machine_256 kv_1 ?_
                      refine g_callV (As := [vi (1 : Int32)]) (rest := []) O ci_12 rfl dX12_machine_257 ml_X12_350 im_yX12_refused se_yX12_refused ini_X12 co_yX12_refused yo_yX12_refused c2 rfl rfl (Nat.le_of_ble_eq_true rfl) ⟨by decide, by decide, by decide, by decide⟩ (okX12_refused hw) (k_I fun r257 h257 hw => ?_)
                      exact g_ireturn O dX12_machine_260 ⟨rfl, rfl, _, rfl, hw⟩
  · have hw := hw.2 q10
    refine g_aload_n O dX12_machine_13 rfl ?_
    refine g_iconst O dX12_machine_14 kv_1 ?_
    refine g_callV (As := [vi (1 : Int32)]) (rest := []) O ci_12 rfl dX12_machine_15 ml_X12_350 im_yX12_refused se_yX12_refused ini_X12 co_yX12_refused yo_yX12_refused c2 rfl rfl (Nat.le_of_ble_eq_true rfl) ⟨by decide, by decide, by decide, by decide⟩ (okX12_refused hw) (k_I fun r15 h15 hw => ?_)
    exact g_ireturn O dX12_machine_18 ⟨rfl, rfl, _, rfl, hw⟩
theorem dX12_passesSign_0 : decode cX12_passesSign 0 = .ok (.aload_n 0, 1) := by decide +kernel
theorem dX12_passesSign_1 : decode cX12_passesSign 1 = .ok (.iload_n 1, 1) := by decide +kernel
theorem dX12_passesSign_2 : decode cX12_passesSign 2 = .ok (.invokevirtual 201, 3) := by decide +kernel
theorem dX12_passesSign_5 : decode cX12_passesSign 5 = .ok (.ifCond .ne 5, 3) := by decide +kernel
theorem dX12_passesSign_8 : decode cX12_passesSign 8 = .ok (.iconst 0, 1) := by decide +kernel
theorem dX12_passesSign_9 : decode cX12_passesSign 9 = .ok (.ireturn, 1) := by decide +kernel
theorem dX12_passesSign_10 : decode cX12_passesSign 10 = .ok (.aload_n 0, 1) := by decide +kernel
theorem dX12_passesSign_11 : decode cX12_passesSign 11 = .ok (.invokevirtual 198, 3) := by decide +kernel
theorem dX12_passesSign_14 : decode cX12_passesSign 14 = .ok (.iconst 1, 1) := by decide +kernel
theorem dX12_passesSign_15 : decode cX12_passesSign 15 = .ok (.ireturn, 1) := by decide +kernel
theorem okX12_passesSign {E : Ev} {S : Sh} {Z : Option Nat} {Q : Int32 → Hp → Prop} {h : Hp} {a0 : Nat} {x1 : Int32} (hw : wX12_passesSign S h a0 x1 Q) : Ct E yX12_passesSign cX12_passesSign 2 (some .boolean) 4 87 0 0 S Z h [vr a0, vi x1] (qI S Z Q) := by
  refine Ct.of (by decide) (lc := [some (vr a0), some (vi x1)]) (Nat.le_of_ble_eq_true rfl) rfl (fun X O => ?_)
  unfold wX12_passesSign at hw
  refine g_aload_n O dX12_passesSign_0 rfl ?_
  refine g_iload_n O dX12_passesSign_1 rfl ?_
  obtain ⟨c2, hw⟩ := hw
  refine g_callV (As := [vi x1]) (rest := []) O ci_12 rfl dX12_passesSign_2 ml_X12_201 im_yX12_isSign se_yX12_isSign ini_X12 co_yX12_isSign yo_yX12_isSign c2 rfl rfl (Nat.le_of_ble_eq_true rfl) ⟨by decide, by decide, by decide, by decide⟩ (okX12_isSign hw) (k_I fun r2 h2 hw => ?_)
  refine g_if_ne (tgt := 10) O dX12_passesSign_5 rfl (fun q5 => ?_) (fun q5 => ?_)
  · have hw := hw.1 q5
    refine g_aload_n O dX12_passesSign_10 rfl ?_
    refine g_callV (As := []) (rest := []) O ci_12 rfl dX12_passesSign_11 ml_X12_198 im_yX12_goOn se_yX12_goOn ini_X12 co_yX12_goOn yo_yX12_goOn c2 rfl rfl (Nat.le_of_ble_eq_true rfl) ⟨by decide, by decide, by decide, by decide⟩ (okX12_goOn hw) (k_V fun h11 hw => ?_)
    refine g_iconst O dX12_passesSign_14 kv_1 ?_
    exact g_zreturn O dX12_passesSign_15 (by decide) ⟨rfl, rfl, _, rfl, hw⟩
  · have hw := hw.2 q5
    refine g_iconst O dX12_passesSign_8 kv_0 ?_
    exact g_zreturn O dX12_passesSign_9 (by decide) ⟨rfl, rfl, _, rfl, hw⟩
theorem dX12_needs_0 : decode cX12_needs 0 = .ok (.aload_n 0, 1) := by decide +kernel
theorem dX12_needs_1 : decode cX12_needs 1 = .ok (.aload_n 1, 1) := by decide +kernel
theorem dX12_needs_2 : decode cX12_needs 2 = .ok (.invokevirtual 190, 3) := by decide +kernel
theorem dX12_needs_5 : decode cX12_needs 5 = .ok (.ifCond .ne 8, 3) := by decide +kernel
theorem dX12_needs_8 : decode cX12_needs 8 = .ok (.aload_n 0, 1) := by decide +kernel
theorem dX12_needs_9 : decode cX12_needs 9 = .ok (.iconst 1, 1) := by decide +kernel
theorem dX12_needs_10 : decode cX12_needs 10 = .ok (.invokevirtual 194, 3) := by decide +kernel
theorem dX12_needs_13 : decode cX12_needs 13 = .ok (.aload_n 0, 1) := by decide +kernel
theorem dX12_needs_14 : decode cX12_needs 14 = .ok (.invokevirtual 198, 3) := by decide +kernel
theorem dX12_needs_17 : decode cX12_needs 17 = .ok (.return_, 1) := by decide +kernel
theorem okX12_needs {E : Ev} {S : Sh} {Z : Option Nat} {Q : Hp → Prop} {h : Hp} {a0 : Nat} {a1 : Nat} (hw : wX12_needs S (fun i => E.2.2.2.2.1 i + 1) h a0 a1 Q) : Ct E yX12_needs cX12_needs 2 none 9 325 0 0 S Z h [vr a0, vr a1] (qV S Z Q) := by
  refine Ct.of (by decide) (lc := [some (vr a0), some (vr a1)]) (Nat.le_of_ble_eq_true rfl) rfl (fun X O => ?_)
  unfold wX12_needs at hw
  refine g_aload_n O dX12_needs_0 rfl ?_
  refine g_aload_n O dX12_needs_1 rfl ?_
  obtain ⟨c2, hw⟩ := hw
  refine g_callV (As := [vr a1]) (rest := []) O ci_12 rfl dX12_needs_2 ml_X12_190 im_yX12_isWord se_yX12_isWord ini_X12 co_yX12_isWord yo_yX12_isWord c2 rfl rfl (Nat.le_of_ble_eq_true rfl) ⟨by decide, by decide, by decide, by decide⟩ (okX12_isWord hw) (k_I fun r2 h2 hw => ?_)
  refine g_if_ne (tgt := 13) O dX12_needs_5 rfl (fun q5 => ?_) (fun q5 => ?_)
  · have hw := hw.1 q5
    refine g_aload_n O dX12_needs_13 rfl ?_
    refine g_callV (As := []) (rest := []) O ci_12 rfl dX12_needs_14 ml_X12_198 im_yX12_goOn se_yX12_goOn ini_X12 co_yX12_goOn yo_yX12_goOn c2 rfl rfl (Nat.le_of_ble_eq_true rfl) ⟨by decide, by decide, by decide, by decide⟩ (okX12_goOn hw) (k_V fun h14 hw => ?_)
    exact g_return O dX12_needs_17 ⟨rfl, rfl, rfl, hw⟩
  · have hw := hw.2 q5
    refine g_aload_n O dX12_needs_8 rfl ?_
    refine g_iconst O dX12_needs_9 kv_1 ?_
    refine g_callV (As := [vi (1 : Int32)]) (rest := []) O ci_12 rfl dX12_needs_10 ml_X12_194 im_yX12_flaw se_yX12_flaw ini_X12 co_yX12_flaw yo_yX12_flaw c2 rfl rfl (Nat.le_of_ble_eq_true rfl) ⟨by decide, by decide, by decide, by decide⟩ (okX12_flaw hw) (k_V fun h10 hw => ?_)
    refine g_aload_n O dX12_needs_13 rfl ?_
    refine g_callV (As := []) (rest := []) O ci_12 rfl dX12_needs_14 ml_X12_198 im_yX12_goOn se_yX12_goOn ini_X12 co_yX12_goOn yo_yX12_goOn c2 rfl rfl (Nat.le_of_ble_eq_true rfl) ⟨by decide, by decide, by decide, by decide⟩ (okX12_goOn hw) (k_V fun h14 hw => ?_)
    exact g_return O dX12_needs_17 ⟨rfl, rfl, rfl, hw⟩
theorem dX12_passes_0 : decode cX12_passes 0 = .ok (.aload_n 0, 1) := by decide +kernel
theorem dX12_passes_1 : decode cX12_passes 1 = .ok (.aload_n 1, 1) := by decide +kernel
theorem dX12_passes_2 : decode cX12_passes 2 = .ok (.invokevirtual 190, 3) := by decide +kernel
theorem dX12_passes_5 : decode cX12_passes 5 = .ok (.ifCond .ne 5, 3) := by decide +kernel
theorem dX12_passes_8 : decode cX12_passes 8 = .ok (.iconst 0, 1) := by decide +kernel
theorem dX12_passes_9 : decode cX12_passes 9 = .ok (.ireturn, 1) := by decide +kernel
theorem dX12_passes_10 : decode cX12_passes 10 = .ok (.aload_n 0, 1) := by decide +kernel
theorem dX12_passes_11 : decode cX12_passes 11 = .ok (.invokevirtual 198, 3) := by decide +kernel
theorem dX12_passes_14 : decode cX12_passes 14 = .ok (.iconst 1, 1) := by decide +kernel
theorem dX12_passes_15 : decode cX12_passes 15 = .ok (.ireturn, 1) := by decide +kernel
theorem okX12_passes {E : Ev} {S : Sh} {Z : Option Nat} {Q : Int32 → Hp → Prop} {h : Hp} {a0 : Nat} {a1 : Nat} (hw : wX12_passes S (fun i => E.2.2.2.2.1 i + 1) h a0 a1 Q) : Ct E yX12_passes cX12_passes 2 (some .boolean) 9 325 0 0 S Z h [vr a0, vr a1] (qI S Z Q) := by
  refine Ct.of (by decide) (lc := [some (vr a0), some (vr a1)]) (Nat.le_of_ble_eq_true rfl) rfl (fun X O => ?_)
  unfold wX12_passes at hw
  refine g_aload_n O dX12_passes_0 rfl ?_
  refine g_aload_n O dX12_passes_1 rfl ?_
  obtain ⟨c2, hw⟩ := hw
  refine g_callV (As := [vr a1]) (rest := []) O ci_12 rfl dX12_passes_2 ml_X12_190 im_yX12_isWord se_yX12_isWord ini_X12 co_yX12_isWord yo_yX12_isWord c2 rfl rfl (Nat.le_of_ble_eq_true rfl) ⟨by decide, by decide, by decide, by decide⟩ (okX12_isWord hw) (k_I fun r2 h2 hw => ?_)
  refine g_if_ne (tgt := 10) O dX12_passes_5 rfl (fun q5 => ?_) (fun q5 => ?_)
  · have hw := hw.1 q5
    refine g_aload_n O dX12_passes_10 rfl ?_
    refine g_callV (As := []) (rest := []) O ci_12 rfl dX12_passes_11 ml_X12_198 im_yX12_goOn se_yX12_goOn ini_X12 co_yX12_goOn yo_yX12_goOn c2 rfl rfl (Nat.le_of_ble_eq_true rfl) ⟨by decide, by decide, by decide, by decide⟩ (okX12_goOn hw) (k_V fun h11 hw => ?_)
    refine g_iconst O dX12_passes_14 kv_1 ?_
    exact g_zreturn O dX12_passes_15 (by decide) ⟨rfl, rfl, _, rfl, hw⟩
  · have hw := hw.2 q5
    refine g_iconst O dX12_passes_8 kv_0 ?_
    exact g_zreturn O dX12_passes_9 (by decide) ⟨rfl, rfl, _, rfl, hw⟩
theorem dX12_needsSign_0 : decode cX12_needsSign 0 = .ok (.aload_n 0, 1) := by decide +kernel
theorem dX12_needsSign_1 : decode cX12_needsSign 1 = .ok (.iload_n 1, 1) := by decide +kernel
theorem dX12_needsSign_2 : decode cX12_needsSign 2 = .ok (.invokevirtual 201, 3) := by decide +kernel
theorem dX12_needsSign_5 : decode cX12_needsSign 5 = .ok (.ifCond .ne 8, 3) := by decide +kernel
theorem dX12_needsSign_8 : decode cX12_needsSign 8 = .ok (.aload_n 0, 1) := by decide +kernel
theorem dX12_needsSign_9 : decode cX12_needsSign 9 = .ok (.iconst 1, 1) := by decide +kernel
theorem dX12_needsSign_10 : decode cX12_needsSign 10 = .ok (.invokevirtual 194, 3) := by decide +kernel
theorem dX12_needsSign_13 : decode cX12_needsSign 13 = .ok (.aload_n 0, 1) := by decide +kernel
theorem dX12_needsSign_14 : decode cX12_needsSign 14 = .ok (.invokevirtual 198, 3) := by decide +kernel
theorem dX12_needsSign_17 : decode cX12_needsSign 17 = .ok (.return_, 1) := by decide +kernel
theorem okX12_needsSign {E : Ev} {S : Sh} {Z : Option Nat} {Q : Hp → Prop} {h : Hp} {a0 : Nat} {x1 : Int32} (hw : wX12_needsSign S h a0 x1 Q) : Ct E yX12_needsSign cX12_needsSign 2 none 4 87 0 0 S Z h [vr a0, vi x1] (qV S Z Q) := by
  refine Ct.of (by decide) (lc := [some (vr a0), some (vi x1)]) (Nat.le_of_ble_eq_true rfl) rfl (fun X O => ?_)
  unfold wX12_needsSign at hw
  refine g_aload_n O dX12_needsSign_0 rfl ?_
  refine g_iload_n O dX12_needsSign_1 rfl ?_
  obtain ⟨c2, hw⟩ := hw
  refine g_callV (As := [vi x1]) (rest := []) O ci_12 rfl dX12_needsSign_2 ml_X12_201 im_yX12_isSign se_yX12_isSign ini_X12 co_yX12_isSign yo_yX12_isSign c2 rfl rfl (Nat.le_of_ble_eq_true rfl) ⟨by decide, by decide, by decide, by decide⟩ (okX12_isSign hw) (k_I fun r2 h2 hw => ?_)
  refine g_if_ne (tgt := 13) O dX12_needsSign_5 rfl (fun q5 => ?_) (fun q5 => ?_)
  · have hw := hw.1 q5
    refine g_aload_n O dX12_needsSign_13 rfl ?_
    refine g_callV (As := []) (rest := []) O ci_12 rfl dX12_needsSign_14 ml_X12_198 im_yX12_goOn se_yX12_goOn ini_X12 co_yX12_goOn yo_yX12_goOn c2 rfl rfl (Nat.le_of_ble_eq_true rfl) ⟨by decide, by decide, by decide, by decide⟩ (okX12_goOn hw) (k_V fun h14 hw => ?_)
    exact g_return O dX12_needsSign_17 ⟨rfl, rfl, rfl, hw⟩
  · have hw := hw.2 q5
    refine g_aload_n O dX12_needsSign_8 rfl ?_
    refine g_iconst O dX12_needsSign_9 kv_1 ?_
    refine g_callV (As := [vi (1 : Int32)]) (rest := []) O ci_12 rfl dX12_needsSign_10 ml_X12_194 im_yX12_flaw se_yX12_flaw ini_X12 co_yX12_flaw yo_yX12_flaw c2 rfl rfl (Nat.le_of_ble_eq_true rfl) ⟨by decide, by decide, by decide, by decide⟩ (okX12_flaw hw) (k_V fun h10 hw => ?_)
    refine g_aload_n O dX12_needsSign_13 rfl ?_
    refine g_callV (As := []) (rest := []) O ci_12 rfl dX12_needsSign_14 ml_X12_198 im_yX12_goOn se_yX12_goOn ini_X12 co_yX12_goOn yo_yX12_goOn c2 rfl rfl (Nat.le_of_ble_eq_true rfl) ⟨by decide, by decide, by decide, by decide⟩ (okX12_goOn hw) (k_V fun h14 hw => ?_)
    exact g_return O dX12_needsSign_17 ⟨rfl, rfl, rfl, hw⟩
theorem dX12_opens_0 : decode cX12_opens 0 = .ok (.aload_n 0, 1) := by decide +kernel
theorem dX12_opens_1 : decode cX12_opens 1 = .ok (.getfield 242, 3) := by decide +kernel
theorem dX12_opens_4 : decode cX12_opens 4 = .ok (.bipush 8, 2) := by decide +kernel
theorem dX12_opens_6 : decode cX12_opens 6 = .ok (.if_icmp .ne 8, 3) := by decide +kernel
theorem dX12_opens_9 : decode cX12_opens 9 = .ok (.aload_n 0, 1) := by decide +kernel
theorem dX12_opens_10 : decode cX12_opens 10 = .ok (.iconst 4, 1) := by decide +kernel
theorem dX12_opens_11 : decode cX12_opens 11 = .ok (.invokevirtual 194, 3) := by decide +kernel
theorem dX12_opens_14 : decode cX12_opens 14 = .ok (.aload_n 0, 1) := by decide +kernel
theorem dX12_opens_15 : decode cX12_opens 15 = .ok (.dup, 1) := by decide +kernel
theorem dX12_opens_16 : decode cX12_opens 16 = .ok (.getfield 242, 3) := by decide +kernel
theorem dX12_opens_19 : decode cX12_opens 19 = .ok (.iconst 1, 1) := by decide +kernel
theorem dX12_opens_20 : decode cX12_opens 20 = .ok (.iadd, 1) := by decide +kernel
theorem dX12_opens_21 : decode cX12_opens 21 = .ok (.putfield 242, 3) := by decide +kernel
theorem dX12_opens_24 : decode cX12_opens 24 = .ok (.return_, 1) := by decide +kernel
theorem okX12_opens {E : Ev} {S : Sh} {Z : Option Nat} {Q : Hp → Prop} {h : Hp} {a0 : Nat} (hw : wX12_opens S h a0 Q) : Ct E yX12_opens cX12_opens 1 none 2 45 0 0 S Z h [vr a0] (qV S Z Q) := by
  refine Ct.of (by decide) (lc := [some (vr a0)]) (Nat.le_of_ble_eq_true rfl) rfl (fun X O => ?_)
  unfold wX12_opens at hw
  refine g_aload_n O dX12_opens_0 rfl ?_
  obtain ⟨c1, hw⟩ := hw
  refine gf_X12_open O dX12_opens_1 fl_X12_242 c1 ?_
  refine g_bipush O dX12_opens_4 kb_8 ?_
  refine g_icmp_ne (tgt := 14) O dX12_opens_6 rfl (fun q6 => ?_) (fun q6 => ?_)
  · have hw := hw.1 q6
    refine g_aload_n O dX12_opens_14 rfl ?_
    refine g_dup O dX12_opens_15 rfl ?_
    refine gf_X12_open O dX12_opens_16 fl_X12_242 c1 ?_
    refine g_iconst O dX12_opens_19 kv_1 ?_
    refine g_iadd O dX12_opens_20 ?_
    refine pf_X12_open O dX12_opens_21 fl_X12_242 c1 ?_
    exact g_return O dX12_opens_24 ⟨rfl, rfl, rfl, hw⟩
  · have hw := hw.2 q6
    refine g_aload_n O dX12_opens_9 rfl ?_
    refine g_iconst O dX12_opens_10 kv_4 ?_
    refine g_callV (As := [vi (4 : Int32)]) (rest := []) O ci_12 rfl dX12_opens_11 ml_X12_194 im_yX12_flaw se_yX12_flaw ini_X12 co_yX12_flaw yo_yX12_flaw c1 rfl rfl (Nat.le_of_ble_eq_true rfl) ⟨by decide, by decide, by decide, by decide⟩ (okX12_flaw hw) (k_V fun h11 hw => ?_)
    refine g_aload_n O dX12_opens_14 rfl ?_
    refine g_dup O dX12_opens_15 rfl ?_
    refine gf_X12_open O dX12_opens_16 fl_X12_242 c1 ?_
    refine g_iconst O dX12_opens_19 kv_1 ?_
    refine g_iadd O dX12_opens_20 ?_
    refine pf_X12_open O dX12_opens_21 fl_X12_242 c1 ?_
    exact g_return O dX12_opens_24 ⟨rfl, rfl, rfl, hw⟩

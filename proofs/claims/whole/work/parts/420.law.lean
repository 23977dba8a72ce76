abbrev b_LA_law : ByteArray := code
abbrev b_LA_cell : ByteArray := method_2_code
def y_LA_cell : MethodName := ⟨R_LA, "cell", "([II)I"⟩
abbrev ws_LA_cell : List Cond := .code y_LA_cell b_LA_cell 2 (some .int) :: gt
theorem hs_LA_cell : y_LA_cell.cls = R_LA ∧ y_LA_cell.cls ≠ "java/lang/invoke/MethodHandle" ∧ y_LA_cell.cls ≠ "java/lang/invoke/VarHandle" ∧ (parseMethodDescriptor y_LA_cell.desc).map (fun d => d.parameters.length) = some 2 := by decide +kernel
theorem gc_LA_9 : GoodIn gt (wsS R_LA 9 y_LA_cell ws_LA_cell) := gd_S gw_574 gw_575 gw_0 gw_576
theorem d_LA_cell_0 : decode b_LA_cell 0 = .ok (.iload_n 1, 1) := by decide +kernel
theorem d_LA_cell_1 : decode b_LA_cell 1 = .ok (.aload_n 0, 1) := by decide +kernel
theorem d_LA_cell_2 : decode b_LA_cell 2 = .ok (.arraylength, 1) := by decide +kernel
theorem d_LA_cell_3 : decode b_LA_cell 3 = .ok (.if_icmp .ge 9, 3) := by decide +kernel
theorem d_LA_cell_6 : decode b_LA_cell 6 = .ok (.aload_n 0, 1) := by decide +kernel
theorem d_LA_cell_7 : decode b_LA_cell 7 = .ok (.iload_n 1, 1) := by decide +kernel
theorem d_LA_cell_8 : decode b_LA_cell 8 = .ok (.iaload, 1) := by decide +kernel
theorem d_LA_cell_9 : decode b_LA_cell 9 = .ok (.goto 4, 3) := by decide +kernel
theorem d_LA_cell_12 : decode b_LA_cell 12 = .ok (.iconst 0, 1) := by decide +kernel
theorem d_LA_cell_13 : decode b_LA_cell 13 = .ok (.ireturn, 1) := by decide +kernel
theorem d_LA_law_0 : decode b_LA_law 0 = .ok (.new 7, 3) := by decide +kernel
theorem d_LA_law_3 : decode b_LA_law 3 = .ok (.dup, 1) := by decide +kernel
theorem d_LA_law_4 : decode b_LA_law 4 = .ok (.aload_n 0, 1) := by decide +kernel
theorem d_LA_law_5 : decode b_LA_law 5 = .ok (.iconst 0, 1) := by decide +kernel
theorem d_LA_law_6 : decode b_LA_law 6 = .ok (.invokestatic 9, 3) := by decide +kernel
theorem d_LA_law_9 : decode b_LA_law 9 = .ok (.invokespecial 15, 3) := by decide +kernel
theorem d_LA_law_12 : decode b_LA_law 12 = .ok (.astore_n 1, 1) := by decide +kernel
theorem d_LA_law_13 : decode b_LA_law 13 = .ok (.new 18, 3) := by decide +kernel
theorem d_LA_law_16 : decode b_LA_law 16 = .ok (.dup, 1) := by decide +kernel
theorem d_LA_law_17 : decode b_LA_law 17 = .ok (.aload_n 0, 1) := by decide +kernel
theorem d_LA_law_18 : decode b_LA_law 18 = .ok (.iconst 0, 1) := by decide +kernel
theorem d_LA_law_19 : decode b_LA_law 19 = .ok (.invokestatic 9, 3) := by decide +kernel
theorem d_LA_law_22 : decode b_LA_law 22 = .ok (.invokespecial 20, 3) := by decide +kernel
theorem d_LA_law_25 : decode b_LA_law 25 = .ok (.astore_n 2, 1) := by decide +kernel
theorem d_LA_law_26 : decode b_LA_law 26 = .ok (.iconst 1, 1) := by decide +kernel
theorem d_LA_law_27 : decode b_LA_law 27 = .ok (.istore_n 3, 1) := by decide +kernel
theorem d_LA_law_28 : decode b_LA_law 28 = .ok (.iload_n 3, 1) := by decide +kernel
theorem d_LA_law_29 : decode b_LA_law 29 = .ok (.aload_n 0, 1) := by decide +kernel
theorem d_LA_law_30 : decode b_LA_law 30 = .ok (.arraylength, 1) := by decide +kernel
theorem d_LA_law_31 : decode b_LA_law 31 = .ok (.bipush 6, 2) := by decide +kernel
theorem d_LA_law_33 : decode b_LA_law 33 = .ok (.isub, 1) := by decide +kernel
theorem d_LA_law_34 : decode b_LA_law 34 = .ok (.if_icmp .gt 453, 3) := by decide +kernel
theorem d_LA_law_37 : decode b_LA_law 37 = .ok (.aload_n 0, 1) := by decide +kernel
theorem d_LA_law_38 : decode b_LA_law 38 = .ok (.iload_n 3, 1) := by decide +kernel
theorem d_LA_law_39 : decode b_LA_law 39 = .ok (.iaload, 1) := by decide +kernel
theorem d_LA_law_40 : decode b_LA_law 40 = .ok (.bipush 15, 2) := by decide +kernel
theorem d_LA_law_42 : decode b_LA_law 42 = .ok (.iand, 1) := by decide +kernel
theorem d_LA_law_43 : decode b_LA_law 43 = .ok (.tableswitch 438 0 14 #[73, 126, 189, 212, 225, 238, 261, 284, 307, 330, 343, 356, 379, 402, 415], 73) := by decide +kernel
theorem d_LA_law_116 : decode b_LA_law 116 = .ok (.aload_n 1, 1) := by decide +kernel
theorem d_LA_law_117 : decode b_LA_law 117 = .ok (.aload_n 0, 1) := by decide +kernel
theorem d_LA_law_118 : decode b_LA_law 118 = .ok (.iload_n 3, 1) := by decide +kernel
theorem d_LA_law_119 : decode b_LA_law 119 = .ok (.iconst 1, 1) := by decide +kernel
theorem d_LA_law_120 : decode b_LA_law 120 = .ok (.iadd, 1) := by decide +kernel
theorem d_LA_law_121 : decode b_LA_law 121 = .ok (.iaload, 1) := by decide +kernel
theorem d_LA_law_122 : decode b_LA_law 122 = .ok (.aload_n 0, 1) := by decide +kernel
theorem d_LA_law_123 : decode b_LA_law 123 = .ok (.iload_n 3, 1) := by decide +kernel
theorem d_LA_law_124 : decode b_LA_law 124 = .ok (.iconst 2, 1) := by decide +kernel
theorem d_LA_law_125 : decode b_LA_law 125 = .ok (.iadd, 1) := by decide +kernel
theorem d_LA_law_126 : decode b_LA_law 126 = .ok (.iaload, 1) := by decide +kernel
theorem d_LA_law_127 : decode b_LA_law 127 = .ok (.aload_n 0, 1) := by decide +kernel
theorem d_LA_law_128 : decode b_LA_law 128 = .ok (.iload_n 3, 1) := by decide +kernel
theorem d_LA_law_129 : decode b_LA_law 129 = .ok (.iconst 3, 1) := by decide +kernel
theorem d_LA_law_130 : decode b_LA_law 130 = .ok (.iadd, 1) := by decide +kernel
theorem d_LA_law_131 : decode b_LA_law 131 = .ok (.iaload, 1) := by decide +kernel
theorem d_LA_law_132 : decode b_LA_law 132 = .ok (.aload_n 0, 1) := by decide +kernel
theorem d_LA_law_133 : decode b_LA_law 133 = .ok (.iload_n 3, 1) := by decide +kernel
theorem d_LA_law_134 : decode b_LA_law 134 = .ok (.iconst 4, 1) := by decide +kernel
theorem d_LA_law_135 : decode b_LA_law 135 = .ok (.iadd, 1) := by decide +kernel
theorem d_LA_law_136 : decode b_LA_law 136 = .ok (.iaload, 1) := by decide +kernel
theorem d_LA_law_137 : decode b_LA_law 137 = .ok (.invokevirtual 21, 3) := by decide +kernel
theorem d_LA_law_140 : decode b_LA_law 140 = .ok (.aload_n 2, 1) := by decide +kernel
theorem d_LA_law_141 : decode b_LA_law 141 = .ok (.aload_n 0, 1) := by decide +kernel
theorem d_LA_law_142 : decode b_LA_law 142 = .ok (.iload_n 3, 1) := by decide +kernel
theorem d_LA_law_143 : decode b_LA_law 143 = .ok (.iconst 1, 1) := by decide +kernel
theorem d_LA_law_144 : decode b_LA_law 144 = .ok (.iadd, 1) := by decide +kernel
theorem d_LA_law_145 : decode b_LA_law 145 = .ok (.iaload, 1) := by decide +kernel
theorem d_LA_law_146 : decode b_LA_law 146 = .ok (.aload_n 0, 1) := by decide +kernel
theorem d_LA_law_147 : decode b_LA_law 147 = .ok (.iload_n 3, 1) := by decide +kernel
theorem d_LA_law_148 : decode b_LA_law 148 = .ok (.iconst 2, 1) := by decide +kernel
theorem d_LA_law_149 : decode b_LA_law 149 = .ok (.iadd, 1) := by decide +kernel
theorem d_LA_law_150 : decode b_LA_law 150 = .ok (.iaload, 1) := by decide +kernel
theorem d_LA_law_151 : decode b_LA_law 151 = .ok (.aload_n 0, 1) := by decide +kernel
theorem d_LA_law_152 : decode b_LA_law 152 = .ok (.iload_n 3, 1) := by decide +kernel
theorem d_LA_law_153 : decode b_LA_law 153 = .ok (.iconst 3, 1) := by decide +kernel
theorem d_LA_law_154 : decode b_LA_law 154 = .ok (.iadd, 1) := by decide +kernel
theorem d_LA_law_155 : decode b_LA_law 155 = .ok (.iaload, 1) := by decide +kernel
theorem d_LA_law_156 : decode b_LA_law 156 = .ok (.aload_n 0, 1) := by decide +kernel
theorem d_LA_law_157 : decode b_LA_law 157 = .ok (.iload_n 3, 1) := by decide +kernel
theorem d_LA_law_158 : decode b_LA_law 158 = .ok (.iconst 4, 1) := by decide +kernel
theorem d_LA_law_159 : decode b_LA_law 159 = .ok (.iadd, 1) := by decide +kernel
theorem d_LA_law_160 : decode b_LA_law 160 = .ok (.iaload, 1) := by decide +kernel
theorem d_LA_law_161 : decode b_LA_law 161 = .ok (.invokevirtual 25, 3) := by decide +kernel
theorem d_LA_law_164 : decode b_LA_law 164 = .ok (.if_icmp .eq 317, 3) := by decide +kernel
theorem d_LA_law_167 : decode b_LA_law 167 = .ok (.iconst 0, 1) := by decide +kernel
theorem d_LA_law_168 : decode b_LA_law 168 = .ok (.ireturn, 1) := by decide +kernel
theorem d_LA_law_169 : decode b_LA_law 169 = .ok (.aload_n 1, 1) := by decide +kernel
theorem d_LA_law_170 : decode b_LA_law 170 = .ok (.aload_n 0, 1) := by decide +kernel
theorem d_LA_law_171 : decode b_LA_law 171 = .ok (.iload_n 3, 1) := by decide +kernel
theorem d_LA_law_172 : decode b_LA_law 172 = .ok (.iconst 1, 1) := by decide +kernel
theorem d_LA_law_173 : decode b_LA_law 173 = .ok (.iadd, 1) := by decide +kernel
theorem d_LA_law_174 : decode b_LA_law 174 = .ok (.iaload, 1) := by decide +kernel
theorem d_LA_law_175 : decode b_LA_law 175 = .ok (.aload_n 0, 1) := by decide +kernel
theorem d_LA_law_176 : decode b_LA_law 176 = .ok (.iload_n 3, 1) := by decide +kernel
theorem d_LA_law_177 : decode b_LA_law 177 = .ok (.iconst 2, 1) := by decide +kernel
theorem d_LA_law_178 : decode b_LA_law 178 = .ok (.iadd, 1) := by decide +kernel
theorem d_LA_law_179 : decode b_LA_law 179 = .ok (.iaload, 1) := by decide +kernel
theorem d_LA_law_180 : decode b_LA_law 180 = .ok (.aload_n 0, 1) := by decide +kernel
theorem d_LA_law_181 : decode b_LA_law 181 = .ok (.iload_n 3, 1) := by decide +kernel
theorem d_LA_law_182 : decode b_LA_law 182 = .ok (.iconst 3, 1) := by decide +kernel
theorem d_LA_law_183 : decode b_LA_law 183 = .ok (.iadd, 1) := by decide +kernel
theorem d_LA_law_184 : decode b_LA_law 184 = .ok (.iaload, 1) := by decide +kernel
theorem d_LA_law_185 : decode b_LA_law 185 = .ok (.aload_n 0, 1) := by decide +kernel
theorem d_LA_law_186 : decode b_LA_law 186 = .ok (.iload_n 3, 1) := by decide +kernel
theorem d_LA_law_187 : decode b_LA_law 187 = .ok (.iconst 4, 1) := by decide +kernel
theorem d_LA_law_188 : decode b_LA_law 188 = .ok (.iadd, 1) := by decide +kernel
theorem d_LA_law_189 : decode b_LA_law 189 = .ok (.iaload, 1) := by decide +kernel
theorem d_LA_law_190 : decode b_LA_law 190 = .ok (.aload_n 0, 1) := by decide +kernel
theorem d_LA_law_191 : decode b_LA_law 191 = .ok (.iload_n 3, 1) := by decide +kernel
theorem d_LA_law_192 : decode b_LA_law 192 = .ok (.iconst 5, 1) := by decide +kernel
theorem d_LA_law_193 : decode b_LA_law 193 = .ok (.iadd, 1) := by decide +kernel
theorem d_LA_law_194 : decode b_LA_law 194 = .ok (.iaload, 1) := by decide +kernel
theorem d_LA_law_195 : decode b_LA_law 195 = .ok (.invokevirtual 26, 3) := by decide +kernel
theorem d_LA_law_198 : decode b_LA_law 198 = .ok (.aload_n 2, 1) := by decide +kernel
theorem d_LA_law_199 : decode b_LA_law 199 = .ok (.aload_n 0, 1) := by decide +kernel
theorem d_LA_law_200 : decode b_LA_law 200 = .ok (.iload_n 3, 1) := by decide +kernel
theorem d_LA_law_201 : decode b_LA_law 201 = .ok (.iconst 1, 1) := by decide +kernel
theorem d_LA_law_202 : decode b_LA_law 202 = .ok (.iadd, 1) := by decide +kernel
theorem d_LA_law_203 : decode b_LA_law 203 = .ok (.iaload, 1) := by decide +kernel
theorem d_LA_law_204 : decode b_LA_law 204 = .ok (.aload_n 0, 1) := by decide +kernel
theorem d_LA_law_205 : decode b_LA_law 205 = .ok (.iload_n 3, 1) := by decide +kernel
theorem d_LA_law_206 : decode b_LA_law 206 = .ok (.iconst 2, 1) := by decide +kernel
theorem d_LA_law_207 : decode b_LA_law 207 = .ok (.iadd, 1) := by decide +kernel
theorem d_LA_law_208 : decode b_LA_law 208 = .ok (.iaload, 1) := by decide +kernel
theorem d_LA_law_209 : decode b_LA_law 209 = .ok (.aload_n 0, 1) := by decide +kernel
theorem d_LA_law_210 : decode b_LA_law 210 = .ok (.iload_n 3, 1) := by decide +kernel
theorem d_LA_law_211 : decode b_LA_law 211 = .ok (.iconst 3, 1) := by decide +kernel
theorem d_LA_law_212 : decode b_LA_law 212 = .ok (.iadd, 1) := by decide +kernel
theorem d_LA_law_213 : decode b_LA_law 213 = .ok (.iaload, 1) := by decide +kernel
theorem d_LA_law_214 : decode b_LA_law 214 = .ok (.aload_n 0, 1) := by decide +kernel
theorem d_LA_law_215 : decode b_LA_law 215 = .ok (.iload_n 3, 1) := by decide +kernel
theorem d_LA_law_216 : decode b_LA_law 216 = .ok (.iconst 4, 1) := by decide +kernel
theorem d_LA_law_217 : decode b_LA_law 217 = .ok (.iadd, 1) := by decide +kernel
theorem d_LA_law_218 : decode b_LA_law 218 = .ok (.iaload, 1) := by decide +kernel
theorem d_LA_law_219 : decode b_LA_law 219 = .ok (.aload_n 0, 1) := by decide +kernel
theorem d_LA_law_220 : decode b_LA_law 220 = .ok (.iload_n 3, 1) := by decide +kernel
theorem d_LA_law_221 : decode b_LA_law 221 = .ok (.iconst 5, 1) := by decide +kernel
theorem d_LA_law_222 : decode b_LA_law 222 = .ok (.iadd, 1) := by decide +kernel
theorem d_LA_law_223 : decode b_LA_law 223 = .ok (.iaload, 1) := by decide +kernel
theorem d_LA_law_224 : decode b_LA_law 224 = .ok (.invokevirtual 30, 3) := by decide +kernel
theorem d_LA_law_227 : decode b_LA_law 227 = .ok (.if_icmp .eq 254, 3) := by decide +kernel
theorem d_LA_law_230 : decode b_LA_law 230 = .ok (.iconst 0, 1) := by decide +kernel
theorem d_LA_law_231 : decode b_LA_law 231 = .ok (.ireturn, 1) := by decide +kernel
theorem d_LA_law_232 : decode b_LA_law 232 = .ok (.aload_n 1, 1) := by decide +kernel
theorem d_LA_law_233 : decode b_LA_law 233 = .ok (.aload_n 0, 1) := by decide +kernel
theorem d_LA_law_234 : decode b_LA_law 234 = .ok (.iload_n 3, 1) := by decide +kernel
theorem d_LA_law_235 : decode b_LA_law 235 = .ok (.iconst 1, 1) := by decide +kernel
theorem d_LA_law_236 : decode b_LA_law 236 = .ok (.iadd, 1) := by decide +kernel
theorem d_LA_law_237 : decode b_LA_law 237 = .ok (.iaload, 1) := by decide +kernel
theorem d_LA_law_238 : decode b_LA_law 238 = .ok (.invokevirtual 31, 3) := by decide +kernel
theorem d_LA_law_241 : decode b_LA_law 241 = .ok (.aload_n 2, 1) := by decide +kernel
theorem d_LA_law_242 : decode b_LA_law 242 = .ok (.aload_n 0, 1) := by decide +kernel
theorem d_LA_law_243 : decode b_LA_law 243 = .ok (.iload_n 3, 1) := by decide +kernel
theorem d_LA_law_244 : decode b_LA_law 244 = .ok (.iconst 1, 1) := by decide +kernel
theorem d_LA_law_245 : decode b_LA_law 245 = .ok (.iadd, 1) := by decide +kernel
theorem d_LA_law_246 : decode b_LA_law 246 = .ok (.iaload, 1) := by decide +kernel
theorem d_LA_law_247 : decode b_LA_law 247 = .ok (.invokevirtual 35, 3) := by decide +kernel
theorem d_LA_law_250 : decode b_LA_law 250 = .ok (.if_icmp .eq 231, 3) := by decide +kernel
theorem d_LA_law_253 : decode b_LA_law 253 = .ok (.iconst 0, 1) := by decide +kernel
theorem d_LA_law_254 : decode b_LA_law 254 = .ok (.ireturn, 1) := by decide +kernel
theorem d_LA_law_255 : decode b_LA_law 255 = .ok (.aload_n 1, 1) := by decide +kernel
theorem d_LA_law_256 : decode b_LA_law 256 = .ok (.invokevirtual 36, 3) := by decide +kernel
theorem d_LA_law_259 : decode b_LA_law 259 = .ok (.aload_n 2, 1) := by decide +kernel
theorem d_LA_law_260 : decode b_LA_law 260 = .ok (.invokevirtual 40, 3) := by decide +kernel
theorem d_LA_law_263 : decode b_LA_law 263 = .ok (.if_icmp .eq 218, 3) := by decide +kernel
theorem d_LA_law_266 : decode b_LA_law 266 = .ok (.iconst 0, 1) := by decide +kernel
theorem d_LA_law_267 : decode b_LA_law 267 = .ok (.ireturn, 1) := by decide +kernel
theorem d_LA_law_268 : decode b_LA_law 268 = .ok (.aload_n 1, 1) := by decide +kernel
theorem d_LA_law_269 : decode b_LA_law 269 = .ok (.invokevirtual 41, 3) := by decide +kernel
theorem d_LA_law_272 : decode b_LA_law 272 = .ok (.aload_n 2, 1) := by decide +kernel
theorem d_LA_law_273 : decode b_LA_law 273 = .ok (.invokevirtual 44, 3) := by decide +kernel
theorem d_LA_law_276 : decode b_LA_law 276 = .ok (.if_icmp .eq 205, 3) := by decide +kernel
theorem d_LA_law_279 : decode b_LA_law 279 = .ok (.iconst 0, 1) := by decide +kernel
theorem d_LA_law_280 : decode b_LA_law 280 = .ok (.ireturn, 1) := by decide +kernel
theorem d_LA_law_281 : decode b_LA_law 281 = .ok (.aload_n 1, 1) := by decide +kernel
theorem d_LA_law_282 : decode b_LA_law 282 = .ok (.aload_n 0, 1) := by decide +kernel
theorem d_LA_law_283 : decode b_LA_law 283 = .ok (.iload_n 3, 1) := by decide +kernel
theorem d_LA_law_284 : decode b_LA_law 284 = .ok (.iconst 1, 1) := by decide +kernel
theorem d_LA_law_285 : decode b_LA_law 285 = .ok (.iadd, 1) := by decide +kernel
theorem d_LA_law_286 : decode b_LA_law 286 = .ok (.iaload, 1) := by decide +kernel
theorem d_LA_law_287 : decode b_LA_law 287 = .ok (.invokevirtual 45, 3) := by decide +kernel
theorem d_LA_law_290 : decode b_LA_law 290 = .ok (.aload_n 2, 1) := by decide +kernel
theorem d_LA_law_291 : decode b_LA_law 291 = .ok (.aload_n 0, 1) := by decide +kernel
theorem d_LA_law_292 : decode b_LA_law 292 = .ok (.iload_n 3, 1) := by decide +kernel
theorem d_LA_law_293 : decode b_LA_law 293 = .ok (.iconst 1, 1) := by decide +kernel
theorem d_LA_law_294 : decode b_LA_law 294 = .ok (.iadd, 1) := by decide +kernel
theorem d_LA_law_295 : decode b_LA_law 295 = .ok (.iaload, 1) := by decide +kernel
theorem d_LA_law_296 : decode b_LA_law 296 = .ok (.invokevirtual 49, 3) := by decide +kernel
theorem d_LA_law_299 : decode b_LA_law 299 = .ok (.if_icmp .eq 182, 3) := by decide +kernel
theorem d_LA_law_302 : decode b_LA_law 302 = .ok (.iconst 0, 1) := by decide +kernel
theorem d_LA_law_303 : decode b_LA_law 303 = .ok (.ireturn, 1) := by decide +kernel
theorem d_LA_law_304 : decode b_LA_law 304 = .ok (.aload_n 1, 1) := by decide +kernel
theorem d_LA_law_305 : decode b_LA_law 305 = .ok (.aload_n 0, 1) := by decide +kernel
theorem d_LA_law_306 : decode b_LA_law 306 = .ok (.iload_n 3, 1) := by decide +kernel
theorem d_LA_law_307 : decode b_LA_law 307 = .ok (.iconst 1, 1) := by decide +kernel
theorem d_LA_law_308 : decode b_LA_law 308 = .ok (.iadd, 1) := by decide +kernel
theorem d_LA_law_309 : decode b_LA_law 309 = .ok (.iaload, 1) := by decide +kernel
theorem d_LA_law_310 : decode b_LA_law 310 = .ok (.invokevirtual 50, 3) := by decide +kernel
theorem d_LA_law_313 : decode b_LA_law 313 = .ok (.aload_n 2, 1) := by decide +kernel
theorem d_LA_law_314 : decode b_LA_law 314 = .ok (.aload_n 0, 1) := by decide +kernel
theorem d_LA_law_315 : decode b_LA_law 315 = .ok (.iload_n 3, 1) := by decide +kernel
theorem d_LA_law_316 : decode b_LA_law 316 = .ok (.iconst 1, 1) := by decide +kernel
theorem d_LA_law_317 : decode b_LA_law 317 = .ok (.iadd, 1) := by decide +kernel
theorem d_LA_law_318 : decode b_LA_law 318 = .ok (.iaload, 1) := by decide +kernel
theorem d_LA_law_319 : decode b_LA_law 319 = .ok (.invokevirtual 53, 3) := by decide +kernel
theorem d_LA_law_322 : decode b_LA_law 322 = .ok (.if_icmp .eq 159, 3) := by decide +kernel
theorem d_LA_law_325 : decode b_LA_law 325 = .ok (.iconst 0, 1) := by decide +kernel
theorem d_LA_law_326 : decode b_LA_law 326 = .ok (.ireturn, 1) := by decide +kernel
theorem d_LA_law_327 : decode b_LA_law 327 = .ok (.aload_n 1, 1) := by decide +kernel
theorem d_LA_law_328 : decode b_LA_law 328 = .ok (.aload_n 0, 1) := by decide +kernel
theorem d_LA_law_329 : decode b_LA_law 329 = .ok (.iload_n 3, 1) := by decide +kernel
theorem d_LA_law_330 : decode b_LA_law 330 = .ok (.iconst 1, 1) := by decide +kernel
theorem d_LA_law_331 : decode b_LA_law 331 = .ok (.iadd, 1) := by decide +kernel
theorem d_LA_law_332 : decode b_LA_law 332 = .ok (.iaload, 1) := by decide +kernel
theorem d_LA_law_333 : decode b_LA_law 333 = .ok (.invokevirtual 54, 3) := by decide +kernel
theorem d_LA_law_336 : decode b_LA_law 336 = .ok (.aload_n 2, 1) := by decide +kernel
theorem d_LA_law_337 : decode b_LA_law 337 = .ok (.aload_n 0, 1) := by decide +kernel
theorem d_LA_law_338 : decode b_LA_law 338 = .ok (.iload_n 3, 1) := by decide +kernel
theorem d_LA_law_339 : decode b_LA_law 339 = .ok (.iconst 1, 1) := by decide +kernel
theorem d_LA_law_340 : decode b_LA_law 340 = .ok (.iadd, 1) := by decide +kernel
theorem d_LA_law_341 : decode b_LA_law 341 = .ok (.iaload, 1) := by decide +kernel
theorem d_LA_law_342 : decode b_LA_law 342 = .ok (.invokevirtual 57, 3) := by decide +kernel
theorem d_LA_law_345 : decode b_LA_law 345 = .ok (.if_icmp .eq 136, 3) := by decide +kernel
theorem d_LA_law_348 : decode b_LA_law 348 = .ok (.iconst 0, 1) := by decide +kernel
theorem d_LA_law_349 : decode b_LA_law 349 = .ok (.ireturn, 1) := by decide +kernel
theorem d_LA_law_350 : decode b_LA_law 350 = .ok (.aload_n 1, 1) := by decide +kernel
theorem d_LA_law_351 : decode b_LA_law 351 = .ok (.aload_n 0, 1) := by decide +kernel
theorem d_LA_law_352 : decode b_LA_law 352 = .ok (.iload_n 3, 1) := by decide +kernel
theorem d_LA_law_353 : decode b_LA_law 353 = .ok (.iconst 1, 1) := by decide +kernel
theorem d_LA_law_354 : decode b_LA_law 354 = .ok (.iadd, 1) := by decide +kernel
theorem d_LA_law_355 : decode b_LA_law 355 = .ok (.iaload, 1) := by decide +kernel
theorem d_LA_law_356 : decode b_LA_law 356 = .ok (.invokevirtual 58, 3) := by decide +kernel
theorem d_LA_law_359 : decode b_LA_law 359 = .ok (.aload_n 2, 1) := by decide +kernel
theorem d_LA_law_360 : decode b_LA_law 360 = .ok (.aload_n 0, 1) := by decide +kernel
theorem d_LA_law_361 : decode b_LA_law 361 = .ok (.iload_n 3, 1) := by decide +kernel
theorem d_LA_law_362 : decode b_LA_law 362 = .ok (.iconst 1, 1) := by decide +kernel
theorem d_LA_law_363 : decode b_LA_law 363 = .ok (.iadd, 1) := by decide +kernel
theorem d_LA_law_364 : decode b_LA_law 364 = .ok (.iaload, 1) := by decide +kernel
theorem d_LA_law_365 : decode b_LA_law 365 = .ok (.invokevirtual 61, 3) := by decide +kernel
theorem d_LA_law_368 : decode b_LA_law 368 = .ok (.if_icmp .eq 113, 3) := by decide +kernel
theorem d_LA_law_371 : decode b_LA_law 371 = .ok (.iconst 0, 1) := by decide +kernel
theorem d_LA_law_372 : decode b_LA_law 372 = .ok (.ireturn, 1) := by decide +kernel
theorem d_LA_law_373 : decode b_LA_law 373 = .ok (.aload_n 1, 1) := by decide +kernel
theorem d_LA_law_374 : decode b_LA_law 374 = .ok (.invokevirtual 62, 3) := by decide +kernel
theorem d_LA_law_377 : decode b_LA_law 377 = .ok (.aload_n 2, 1) := by decide +kernel
theorem d_LA_law_378 : decode b_LA_law 378 = .ok (.invokevirtual 65, 3) := by decide +kernel
theorem d_LA_law_381 : decode b_LA_law 381 = .ok (.if_icmp .eq 100, 3) := by decide +kernel
theorem d_LA_law_384 : decode b_LA_law 384 = .ok (.iconst 0, 1) := by decide +kernel
theorem d_LA_law_385 : decode b_LA_law 385 = .ok (.ireturn, 1) := by decide +kernel
theorem d_LA_law_386 : decode b_LA_law 386 = .ok (.aload_n 1, 1) := by decide +kernel
theorem d_LA_law_387 : decode b_LA_law 387 = .ok (.invokevirtual 66, 3) := by decide +kernel
theorem d_LA_law_390 : decode b_LA_law 390 = .ok (.aload_n 2, 1) := by decide +kernel
theorem d_LA_law_391 : decode b_LA_law 391 = .ok (.invokevirtual 69, 3) := by decide +kernel
theorem d_LA_law_394 : decode b_LA_law 394 = .ok (.if_icmp .eq 87, 3) := by decide +kernel
theorem d_LA_law_397 : decode b_LA_law 397 = .ok (.iconst 0, 1) := by decide +kernel
theorem d_LA_law_398 : decode b_LA_law 398 = .ok (.ireturn, 1) := by decide +kernel
theorem d_LA_law_399 : decode b_LA_law 399 = .ok (.aload_n 1, 1) := by decide +kernel
theorem d_LA_law_400 : decode b_LA_law 400 = .ok (.aload_n 0, 1) := by decide +kernel
theorem d_LA_law_401 : decode b_LA_law 401 = .ok (.iload_n 3, 1) := by decide +kernel
theorem d_LA_law_402 : decode b_LA_law 402 = .ok (.iconst 1, 1) := by decide +kernel
theorem d_LA_law_403 : decode b_LA_law 403 = .ok (.iadd, 1) := by decide +kernel
theorem d_LA_law_404 : decode b_LA_law 404 = .ok (.iaload, 1) := by decide +kernel
theorem d_LA_law_405 : decode b_LA_law 405 = .ok (.invokevirtual 70, 3) := by decide +kernel
theorem d_LA_law_408 : decode b_LA_law 408 = .ok (.aload_n 2, 1) := by decide +kernel
theorem d_LA_law_409 : decode b_LA_law 409 = .ok (.aload_n 0, 1) := by decide +kernel
theorem d_LA_law_410 : decode b_LA_law 410 = .ok (.iload_n 3, 1) := by decide +kernel
theorem d_LA_law_411 : decode b_LA_law 411 = .ok (.iconst 1, 1) := by decide +kernel
theorem d_LA_law_412 : decode b_LA_law 412 = .ok (.iadd, 1) := by decide +kernel
theorem d_LA_law_413 : decode b_LA_law 413 = .ok (.iaload, 1) := by decide +kernel
theorem d_LA_law_414 : decode b_LA_law 414 = .ok (.invokevirtual 73, 3) := by decide +kernel
theorem d_LA_law_417 : decode b_LA_law 417 = .ok (.if_icmp .eq 64, 3) := by decide +kernel
theorem d_LA_law_420 : decode b_LA_law 420 = .ok (.iconst 0, 1) := by decide +kernel
theorem d_LA_law_421 : decode b_LA_law 421 = .ok (.ireturn, 1) := by decide +kernel
theorem d_LA_law_422 : decode b_LA_law 422 = .ok (.aload_n 1, 1) := by decide +kernel
theorem d_LA_law_423 : decode b_LA_law 423 = .ok (.aload_n 0, 1) := by decide +kernel
theorem d_LA_law_424 : decode b_LA_law 424 = .ok (.iload_n 3, 1) := by decide +kernel
theorem d_LA_law_425 : decode b_LA_law 425 = .ok (.iconst 1, 1) := by decide +kernel
theorem d_LA_law_426 : decode b_LA_law 426 = .ok (.iadd, 1) := by decide +kernel
theorem d_LA_law_427 : decode b_LA_law 427 = .ok (.iaload, 1) := by decide +kernel
theorem d_LA_law_428 : decode b_LA_law 428 = .ok (.invokevirtual 74, 3) := by decide +kernel
theorem d_LA_law_431 : decode b_LA_law 431 = .ok (.aload_n 2, 1) := by decide +kernel
theorem d_LA_law_432 : decode b_LA_law 432 = .ok (.aload_n 0, 1) := by decide +kernel
theorem d_LA_law_433 : decode b_LA_law 433 = .ok (.iload_n 3, 1) := by decide +kernel
theorem d_LA_law_434 : decode b_LA_law 434 = .ok (.iconst 1, 1) := by decide +kernel
theorem d_LA_law_435 : decode b_LA_law 435 = .ok (.iadd, 1) := by decide +kernel
theorem d_LA_law_436 : decode b_LA_law 436 = .ok (.iaload, 1) := by decide +kernel
theorem d_LA_law_437 : decode b_LA_law 437 = .ok (.invokevirtual 77, 3) := by decide +kernel
theorem d_LA_law_440 : decode b_LA_law 440 = .ok (.if_icmp .eq 41, 3) := by decide +kernel
theorem d_LA_law_443 : decode b_LA_law 443 = .ok (.iconst 0, 1) := by decide +kernel
theorem d_LA_law_444 : decode b_LA_law 444 = .ok (.ireturn, 1) := by decide +kernel
theorem d_LA_law_445 : decode b_LA_law 445 = .ok (.aload_n 1, 1) := by decide +kernel
theorem d_LA_law_446 : decode b_LA_law 446 = .ok (.invokevirtual 78, 3) := by decide +kernel
theorem d_LA_law_449 : decode b_LA_law 449 = .ok (.aload_n 2, 1) := by decide +kernel
theorem d_LA_law_450 : decode b_LA_law 450 = .ok (.invokevirtual 81, 3) := by decide +kernel
theorem d_LA_law_453 : decode b_LA_law 453 = .ok (.if_icmp .eq 28, 3) := by decide +kernel
theorem d_LA_law_456 : decode b_LA_law 456 = .ok (.iconst 0, 1) := by decide +kernel
theorem d_LA_law_457 : decode b_LA_law 457 = .ok (.ireturn, 1) := by decide +kernel
theorem d_LA_law_458 : decode b_LA_law 458 = .ok (.aload_n 1, 1) := by decide +kernel
theorem d_LA_law_459 : decode b_LA_law 459 = .ok (.aload_n 0, 1) := by decide +kernel
theorem d_LA_law_460 : decode b_LA_law 460 = .ok (.iload_n 3, 1) := by decide +kernel
theorem d_LA_law_461 : decode b_LA_law 461 = .ok (.iconst 1, 1) := by decide +kernel
theorem d_LA_law_462 : decode b_LA_law 462 = .ok (.iadd, 1) := by decide +kernel
theorem d_LA_law_463 : decode b_LA_law 463 = .ok (.iaload, 1) := by decide +kernel
theorem d_LA_law_464 : decode b_LA_law 464 = .ok (.invokevirtual 82, 3) := by decide +kernel
theorem d_LA_law_467 : decode b_LA_law 467 = .ok (.aload_n 2, 1) := by decide +kernel
theorem d_LA_law_468 : decode b_LA_law 468 = .ok (.aload_n 0, 1) := by decide +kernel
theorem d_LA_law_469 : decode b_LA_law 469 = .ok (.iload_n 3, 1) := by decide +kernel
theorem d_LA_law_470 : decode b_LA_law 470 = .ok (.iconst 1, 1) := by decide +kernel
theorem d_LA_law_471 : decode b_LA_law 471 = .ok (.iadd, 1) := by decide +kernel
theorem d_LA_law_472 : decode b_LA_law 472 = .ok (.iaload, 1) := by decide +kernel
theorem d_LA_law_473 : decode b_LA_law 473 = .ok (.invokevirtual 84, 3) := by decide +kernel
theorem d_LA_law_476 : decode b_LA_law 476 = .ok (.if_icmp .eq 5, 3) := by decide +kernel
theorem d_LA_law_479 : decode b_LA_law 479 = .ok (.iconst 0, 1) := by decide +kernel
theorem d_LA_law_480 : decode b_LA_law 480 = .ok (.ireturn, 1) := by decide +kernel
theorem d_LA_law_481 : decode b_LA_law 481 = .ok (.iinc 3 6, 3) := by decide +kernel
theorem d_LA_law_484 : decode b_LA_law 484 = .ok (.goto (-456), 3) := by decide +kernel
theorem d_LA_law_487 : decode b_LA_law 487 = .ok (.iconst 1, 1) := by decide +kernel
theorem d_LA_law_488 : decode b_LA_law 488 = .ok (.ireturn, 1) := by decide +kernel
set_option maxHeartbeats 4000000 in
set_option maxRecDepth 100000 in
/-- cell(script, 0) -/
theorem c_LA_cell (l : Launch) (b L : Nat) (xs : Nat → Int32) (hL : L ≤ 3073) : Met l y_LA_cell ws_LA_cell { frames := 0, cells := 0, slots := 0, locals := 0 } (va_Pc [.ref b, .int 0] (fun U => va_X b L xs U U.heap ∧ b < U.heap.size)) (va_Qi (fun (r : Int32) (_ : Unit) => r = if 0 < L then xs 0 else 0) (fun _ _ => True) (fun _ => False)) 0 0 (fun _ => False) := by
  refine Met.ofW (cc := b_LA_cell) (maxL := 2) (ret := some .int) (by decide) rfl ?_
  intro p e s m args below meth c s₁ B hml hv
  obtain ⟨rfl, hX, hbl⟩ := hv
  have hx := B.exec
  have hb := B.bytes
  have hr := B.returns
  have hlocks := B.notSynchronized
  have hS : va_S (fun _ => False) s.heap s.heap [] := va_S.rf
  have hl := lv_entry ([.ref b, .int 0]) (n := 2) (Nat.le_of_ble_eq_true rfl)
  rw [lg_entry_eq]
  generalize (lg_sl ([.ref b, .int 0]) ++ List.replicate (2 - (lg_sl ([.ref b, .int 0])).length) Slot.unset).toArray = ls at hl ⊢
  have hl : lv_has ls 2 [(0, .ref b), (1, .int 0)] := hl
  refine lv_iload_n hx hb d_LA_cell_0 rfl (lv_at hl 1 rfl) ?_
  refine lv_aload_n hx hb d_LA_cell_1 rfl (lv_at hl 0 rfl) ?_
  refine va_slen hx hb hX hbl (fun h => h) hS d_LA_cell_2 ?_
  refine lv_icmp_ge (tgt := 12) hx hb d_LA_cell_3 (by decide) (fun c1 => ?_) (fun c1 => ?_)
  · have hL0 : L = 0 := by
      apply Nat.eq_zero_of_not_pos
      intro h
      exact nI_nle h (by omega) c1
    refine lv_iconst (v := (0 : Int32)) hx hb d_LA_cell_12 (by decide) ?_
    exact W.iret (v := (0 : Int32)) hx hb hr (fun t ht hW => ⟨⟨0, (), rfl, by rw [hL0]; rfl, trivial⟩, hS.F ht⟩) hS.2.2 d_LA_cell_13
  · have hL0 : 0 < L := by
      apply Nat.pos_of_ne_zero
      intro h
      rw [h] at c1
      exact c1 (by decide)
    refine lv_aload_n hx hb d_LA_cell_6 rfl (lv_at hl 0 rfl) ?_
    refine lv_iload_n hx hb d_LA_cell_7 rfl (lv_at hl 1 rfl) ?_
    refine va_sld hx hb hX hbl (fun h => h) hS (show vp_in (nI 0) L from vp_in_nI hL0 (by omega)) d_LA_cell_8 ?_
    refine lv_goto (tgt := 13) hx hb d_LA_cell_9 (by decide) ?_
    exact W.iret (v := xs (nI 0).toNatClampNeg) hx hb hr (fun t ht hW => ⟨⟨xs (nI 0).toNatClampNeg, (), rfl, by rw [if_pos hL0]; rfl, trivial⟩, hS.F ht⟩) hS.2.2 d_LA_cell_13
/-- both answer, alike, and go on alike -/
def St (RR : SS → SS → Prop) (f g : SS → Option (Int32 × SS)) (σ τ : SS) : Prop := ∃ q q' : Int32 × SS, f σ = some q ∧ g τ = some q' ∧ q.1 = q'.1 ∧ RR q.2 q'.2
def RS (RR : SS → SS → Prop) : Prop := (∀ σ τ : SS, RR σ τ → ∀ x1 x2 x3 x4 : Int32, St RR (f_SC_add x1 x2 x3 x4) (f_MO_add x1 x2 x3 x4) σ τ) ∧ (∀ σ τ : SS, RR σ τ → ∀ x1 x2 x3 x4 x5 : Int32, St RR (f_SC_set x1 x2 x3 x4 x5) (f_MO_set x1 x2 x3 x4 x5) σ τ) ∧ (∀ σ τ : SS, RR σ τ → ∀ x1 : Int32, St RR (f_SC_cut x1) (f_MO_cut x1) σ τ) ∧ (∀ σ τ : SS, RR σ τ → St RR f_SC_size f_MO_size σ τ) ∧ (∀ σ τ : SS, RR σ τ → St RR f_SC_length f_MO_length σ τ) ∧ (∀ σ τ : SS, RR σ τ → ∀ x1 : Int32, St RR (f_SC_code x1) (f_MO_code x1) σ τ) ∧ (∀ σ τ : SS, RR σ τ → ∀ x1 : Int32, St RR (f_SC_carried x1) (f_MO_carried x1) σ τ) ∧ (∀ σ τ : SS, RR σ τ → ∀ x1 : Int32, St RR (f_SC_need x1) (f_MO_need x1) σ τ) ∧ (∀ σ τ : SS, RR σ τ → ∀ x1 : Int32, St RR (f_SC_live x1) (f_MO_live x1) σ τ) ∧ (∀ σ τ : SS, RR σ τ → St RR f_SC_stores f_MO_stores σ τ) ∧ (∀ σ τ : SS, RR σ τ → St RR f_SC_depth f_MO_depth σ τ) ∧ (∀ σ τ : SS, RR σ τ → ∀ x1 : Int32, St RR (f_SC_run x1) (f_MO_run x1) σ τ) ∧ (∀ σ τ : SS, RR σ τ → ∀ x1 : Int32, St RR (f_SC_out x1) (f_MO_out x1) σ τ) ∧ (∀ σ τ : SS, RR σ τ → St RR f_SC_steps f_MO_steps σ τ) ∧ (∀ σ τ : SS, RR σ τ → ∀ x1 : Int32, St RR (f_SC_cell x1) (f_MO_cell x1) σ τ)
theorem gc_LA_21 : GoodIn gt (wsV R_LA 21 R_SC y_SC_add ws_SC_add) := gd_V gw_184 gw_185 gw_186 gw_1 gw_187
theorem gc_LA_25 : GoodIn gt (wsV R_LA 25 R_MO y_MO_add ws_MO_add) := gd_V gw_662 gw_663 gw_664 gw_7 gw_665
theorem gc_LA_26 : GoodIn gt (wsV R_LA 26 R_SC y_SC_set ws_SC_set) := gd_V gw_212 gw_213 gw_214 gw_1 gw_215
theorem gc_LA_30 : GoodIn gt (wsV R_LA 30 R_MO y_MO_set ws_MO_set) := gd_V gw_679 gw_680 gw_681 gw_7 gw_682
theorem gc_LA_31 : GoodIn gt (wsV R_LA 31 R_SC y_SC_cut ws_SC_cut) := gd_V gw_220 gw_221 gw_222 gw_1 gw_223
theorem gc_LA_35 : GoodIn gt (wsV R_LA 35 R_MO y_MO_cut ws_MO_cut) := gd_V gw_683 gw_684 gw_685 gw_7 gw_686
theorem gc_LA_36 : GoodIn gt (wsV R_LA 36 R_SC y_SC_size ws_SC_size) := gd_V gw_224 gw_225 gw_226 gw_1 gw_227
theorem gc_LA_40 : GoodIn gt (wsV R_LA 40 R_MO y_MO_size ws_MO_size) := gd_V gw_687 gw_688 gw_689 gw_7 gw_690
theorem gc_LA_41 : GoodIn gt (wsV R_LA 41 R_SC y_SC_length ws_SC_length) := gd_V gw_228 gw_229 gw_230 gw_1 gw_231
theorem gc_LA_44 : GoodIn gt (wsV R_LA 44 R_MO y_MO_length ws_MO_length) := gd_V gw_691 gw_692 gw_693 gw_7 gw_694
theorem gc_LA_45 : GoodIn gt (wsV R_LA 45 R_SC y_SC_code ws_SC_code) := gd_V gw_437 gw_438 gw_439 gw_1 gw_440
theorem gc_LA_49 : GoodIn gt (wsV R_LA 49 R_MO y_MO_code ws_MO_code) := gd_V gw_783 gw_784 gw_785 gw_7 gw_786
theorem gc_LA_50 : GoodIn gt (wsV R_LA 50 R_SC y_SC_carried ws_SC_carried) := gd_V gw_449 gw_450 gw_451 gw_1 gw_452
theorem gc_LA_53 : GoodIn gt (wsV R_LA 53 R_MO y_MO_carried ws_MO_carried) := gd_V gw_787 gw_788 gw_789 gw_7 gw_790
theorem gc_LA_54 : GoodIn gt (wsV R_LA 54 R_SC y_SC_need ws_SC_need) := gd_V gw_457 gw_458 gw_459 gw_1 gw_460
theorem gc_LA_57 : GoodIn gt (wsV R_LA 57 R_MO y_MO_need ws_MO_need) := gd_V gw_791 gw_792 gw_793 gw_7 gw_794
theorem gc_LA_58 : GoodIn gt (wsV R_LA 58 R_SC y_SC_live ws_SC_live) := gd_V gw_465 gw_466 gw_467 gw_1 gw_468
theorem gc_LA_61 : GoodIn gt (wsV R_LA 61 R_MO y_MO_live ws_MO_live) := gd_V gw_795 gw_796 gw_797 gw_7 gw_798
theorem gc_LA_62 : GoodIn gt (wsV R_LA 62 R_SC y_SC_stores ws_SC_stores) := gd_V gw_470 gw_471 gw_472 gw_1 gw_473
theorem gc_LA_65 : GoodIn gt (wsV R_LA 65 R_MO y_MO_stores ws_MO_stores) := gd_V gw_799 gw_800 gw_801 gw_7 gw_802
theorem gc_LA_66 : GoodIn gt (wsV R_LA 66 R_SC y_SC_depth ws_SC_depth) := gd_V gw_478 gw_479 gw_480 gw_1 gw_481
theorem gc_LA_69 : GoodIn gt (wsV R_LA 69 R_MO y_MO_depth ws_MO_depth) := gd_V gw_803 gw_804 gw_805 gw_7 gw_806
theorem gc_LA_70 : GoodIn gt (wsV R_LA 70 R_SC y_SC_run ws_SC_run) := gd_V gw_486 gw_487 gw_488 gw_1 gw_489
theorem gc_LA_73 : GoodIn gt (wsV R_LA 73 R_MO y_MO_run ws_MO_run) := gd_V gw_807 gw_808 gw_809 gw_7 gw_810
theorem gc_LA_74 : GoodIn gt (wsV R_LA 74 R_SC y_SC_out ws_SC_out) := gd_V gw_550 gw_551 gw_552 gw_1 gw_553
theorem gc_LA_77 : GoodIn gt (wsV R_LA 77 R_MO y_MO_out ws_MO_out) := gd_V gw_830 gw_831 gw_832 gw_7 gw_833
theorem gc_LA_78 : GoodIn gt (wsV R_LA 78 R_SC y_SC_steps ws_SC_steps) := gd_V gw_558 gw_559 gw_560 gw_1 gw_561
theorem gc_LA_81 : GoodIn gt (wsV R_LA 81 R_MO y_MO_steps ws_MO_steps) := gd_V gw_834 gw_835 gw_836 gw_7 gw_837
theorem gc_LA_82 : GoodIn gt (wsV R_LA 82 R_SC y_SC_cell ws_SC_cell) := gd_V gw_566 gw_567 gw_568 gw_1 gw_569
theorem gc_LA_84 : GoodIn gt (wsV R_LA 84 R_MO y_MO_cell ws_MO_cell) := gd_V gw_838 gw_839 gw_840 gw_7 gw_841
def R_law : String := "StackCoderLaw"
def lw_P (b : Addr) (xs : List Int32) (args : Array Value) (s : State) : Prop := args = #[.ref b] ∧ s.IntsAt b xs ∧ xs.length ≤ 3073 ∧ (Jvm.Cond.and given_1 narrow_1).before args s = true
def lw_Q (_ : Array Value) (s : State) (o : Outcome) (t : State) : Prop := o = .returned (some (.int 1)) ∧ Framed s o t [] 51 3456
def lw_Z (below : List Frame) (a : Array Value) (s : State) : State → Prop := fun t => ∃ o, t.status = .running ∧ Ended t below o ∧ lw_Q a s o t
/-- the law's own end, with 1 on the stack, nothing written that was there before, its room as the claim has it -/
theorem lw_ret {p : Program} {l : Launch} {e : Env} {s : State} {m : MethodId} {below : List Frame} {meth : Method} {c : Code} {b : Nat} (hx : p.tables.exec = Jvm.exec) (hb : c.code = code) (hr : meth.sig.returnType = ret) (hlocks : meth.locks = false) {pc : Nat} {H : Heap} {ls : Array Slot} (hdg : decode code pc = .ok (.ireturn, 1)) : W p l e room_1 s m #[Value.ref b] below meth c H [] 51 3456 (lw_Z below #[Value.ref b] s) (F0 m pc ls [.int 1]) := by
  intro T hT X
  obtain ⟨fs, hret, hrun, hended, hW, hframe⟩ := X.leave (v := some (.int 1)) (hlocks := hlocks) (fun h => by rw [hr] at h; cases h)
  have hmeth' : T.vm.method? m = some meth := X.method'
  refine ⟨T.setFrames fs, ?_, .returned (some (.int 1)), hrun, hended, rfl, ⟨_, rfl⟩, hW, hframe⟩
  jvm_step X.here [X.here.top, hx, hb, hdg, hmeth', hr, ret, narrow_b1]
  (try refine ⟨rfl, ?_⟩); (try refine ⟨rfl, ?_⟩)
  first | (intro acts; rw [hret _ acts rfl rfl rfl]) | rw [hret _ _ rfl rfl rfl]
  exact Steps.refl _
/-- what holds at the law's entry: the machine, the code, the tables' words (any of lw_tbl by 'hts w (by decide +kernel)'), the script of L ints xs at the cell b, what the Statement gives of the start (any of its parts by flat_of_before) -/
def lw_At (p : Program) (s : State) (m : MethodId) (meth : Method) (c : Code) (b L : Nat) (xs : Nat → Int32) : Prop :=
  p.tables.exec = Jvm.exec ∧ c.code = code ∧ meth.sig.returnType = ret ∧ c.maxLocals = 4 ∧ s.vm.findClass R_law = some m.cls ∧ (∀ w ∈ lw_tbl, w.before #[Value.ref b] s = true) ∧ va_X b L xs s s.heap ∧ b < s.heap.size ∧ meth.locks = false ∧ (Jvm.Cond.and given_1 narrow_1).before #[Value.ref b] s = true

theorem law_ge {i L : Nat} (hi : i ≤ 3080) (hL : L ≤ 3073) (h : ¬ (Int32.ofNat L - (6 : Int32) < nI i)) : i + 6 ≤ L := by
  have e1 : (nI L - nI 6).toInt = (L : Int) - (6 : Nat) := pk_sub_toInt (by omega) (by omega)
  have e2 : (nI i).toInt = (i : Int) := nI_toInt (by omega)
  rw [show (Int32.ofNat L - (6 : Int32)) = nI L - nI 6 from rfl, Int32.lt_iff_toInt_lt, e1, e2] at h
  omega
theorem law_in {i k L : Nat} (hL : L ≤ 3073) (h : i + k < L) : vp_in (nI i + nI k) L := by
  rw [nI_add]
  exact vp_in_nI h (by omega)
set_option maxHeartbeats 8000000 in
set_option maxRecDepth 100000 in
theorem law_loop {p : Program} {l : Launch} {e : Env} {s : State} {m : MethodId} {below : List Frame} {meth : Method} {c : Code} {D : va_G} {bs L : Nat} {xs : Nat → Int32} (hL : L ≤ 3073) (C0 : lw_At p s m meth c bs L xs) {a b t : Nat → Nat} {cI cZ : ClassId} (haC : aCC a) (haM : aMC b) (hAC : ∀ q, aC a q → s.heap.size ≤ q) (hAM : ∀ q, aM b q → s.heap.size ≤ q) (hap : ∀ i j, i < 30 → j < 21 → a i ≠ b j) (hK : va_K D vwCl [(cI, .int), (cZ, .boolean)] s) (hTC : stC t (aC a) s s.heap) (hTM : stM t (aM b) s s.heap) {RR : SS → SS → Prop} (hR : RS RR) :
    ∀ (n i : Nat), i ≤ 3080 → L + 1 ≤ i + 6 * n → ∀ (σ τ : SS), RR σ τ → ∀ (H : Heap) (locs : List Loc), va_P D vwCl (wC a cI cZ σ) H → va_P D vwCl (wM b cI cZ τ) H → va_S (fun q : Nat => s.heap.size ≤ q) s.heap H locs → ∀ (ls : Array Slot), lv_has ls 4 [(0, .ref bs), (1, .ref (a 0)), (2, .ref (b 0)), (3, .int (nI i))] → W p l e room_1 s m #[Value.ref bs] below meth c H locs 51 3456 (lw_Z below #[Value.ref bs] s) (F0 m 28 ls []) := by
  obtain ⟨hx, hb, hr, hml, hown, hts, hX, hbl, hlocks, hgv⟩ := id C0
  have hg : ∀ w ∈ gt, w.before #[Value.ref bs] s = true := fun w h => hts w (gt_in h)
  have F : CallFix p m c code 4 s #[Value.ref bs] gt R_LA := ⟨hx, hb, hml, hown, hg⟩
  have hbA : ¬ (fun q : Nat => s.heap.size ≤ q) bs := Nat.not_le.mpr hbl
  have apC : ∀ (σ : SS) (k : Nat) (q : Nat × va_E), (wC a cI cZ σ)[k]? = some q → ¬ aM b q.1 := by
    intro σ k q hk ⟨j, hj, hq⟩
    obtain ⟨h1, h2⟩ := at_of (wC_at a cI cZ σ) hk
    exact hap k j h1 hj (h2.symm.trans hq)
  have apM : ∀ (τ : SS) (k : Nat) (q : Nat × va_E), (wM b cI cZ τ)[k]? = some q → ¬ aC a q.1 := by
    intro τ k q hk ⟨j, hj, hq⟩
    obtain ⟨h1, h2⟩ := at_of (wM_at b cI cZ τ) hk
    exact hap j k hj h1 (hq.symm.trans h2)
  obtain ⟨hadd, hset, hcut, hsize, hlength, hcode, hcarried, hneed, hlive, hstores, hdepth, hrun, hout, hsteps, hcell⟩ := id hR
  intro n
  induction n with
  | zero =>
    intro i h1 h2 σ τ hRR H locs hP hQ hS ls hl
    refine lv_iload_n hx hb d_LA_law_28 rfl (lv_at hl 3 rfl) ?_
    refine lv_aload_n hx hb d_LA_law_29 rfl (lv_at hl 0 rfl) ?_
    refine va_slen hx hb hX hbl hbA hS d_LA_law_30 ?_
    refine lv_bipush (v := (6 : Int32)) hx hb d_LA_law_31 (by decide) ?_
    refine lv_isub hx hb d_LA_law_33 ?_
    refine lv_icmp_gt (tgt := 487) hx hb d_LA_law_34 (by decide) (fun c1 => ?_) (fun c1 => ?_)
    · skip
      refine lv_iconst (v := 1) hx hb d_LA_law_487 (by decide) ?_
      refine va_forget (fun q hq => hS.2.2 q hq) ?_
      exact lw_ret hx hb hr hlocks d_LA_law_488
    · exact absurd (law_ge h1 hL c1) (by omega)
  | succ n ih =>
    intro i h1 h2 σ τ hRR H locs hP hQ hS ls hl
    refine lv_iload_n hx hb d_LA_law_28 rfl (lv_at hl 3 rfl) ?_
    refine lv_aload_n hx hb d_LA_law_29 rfl (lv_at hl 0 rfl) ?_
    refine va_slen hx hb hX hbl hbA hS d_LA_law_30 ?_
    refine lv_bipush (v := (6 : Int32)) hx hb d_LA_law_31 (by decide) ?_
    refine lv_isub hx hb d_LA_law_33 ?_
    refine lv_icmp_gt (tgt := 487) hx hb d_LA_law_34 (by decide) (fun c1 => ?_) (fun c1 => ?_)
    · skip
      refine lv_iconst (v := 1) hx hb d_LA_law_487 (by decide) ?_
      refine va_forget (fun q hq => hS.2.2 q hq) ?_
      exact lw_ret hx hb hr hlocks d_LA_law_488
    · have h6 := law_ge h1 hL c1
      have hi0 : vp_in (nI i) L := vp_in_nI (by omega) (by omega)
      have hi1 : vp_in (nI i + (1 : Int32)) L := law_in (k := 1) hL (by omega)
      have hi2 : vp_in (nI i + (2 : Int32)) L := law_in (k := 2) hL (by omega)
      have hi3 : vp_in (nI i + (3 : Int32)) L := law_in (k := 3) hL (by omega)
      have hi4 : vp_in (nI i + (4 : Int32)) L := law_in (k := 4) hL (by omega)
      have hi5 : vp_in (nI i + (5 : Int32)) L := law_in (k := 5) hL (by omega)
      have back : ∀ (σ' τ' : SS), RR σ' τ' → ∀ (H : Heap) (locs : List Loc), va_P D vwCl (wC a cI cZ σ') H → va_P D vwCl (wM b cI cZ τ') H → va_S (fun q : Nat => s.heap.size ≤ q) s.heap H locs → ∀ (ls : Array Slot), lv_has ls 4 [(0, .ref bs), (1, .ref (a 0)), (2, .ref (b 0)), (3, .int (nI i))] → W p l e room_1 s m #[Value.ref bs] below meth c H locs 51 3456 (lw_Z below #[Value.ref bs] s) (F0 m 481 ls []) := by
        intro σ' τ' hRR H locs hP hQ hS ls hl
        refine lv_iinc (v := nI (i + 6)) (lv' := [(3, .int (nI (i + 6))), (0, .ref bs), (1, .ref (a 0)), (2, .ref (b 0))]) hx hb d_LA_law_481 hl (k := 3) rfl (nI_add i 6) (by decide) rfl (fun ls hl => ?_)
        refine lv_goto (tgt := 28) hx hb d_LA_law_484 (by decide) ?_
        exact ih (i + 6) (by omega) (by omega) σ' τ' hRR _ _ hP hQ hS ls (lv_sub hl [1, 2, 3, 0] rfl)
      refine lv_aload_n hx hb d_LA_law_37 rfl (lv_at hl 0 rfl) ?_
      refine lv_iload_n hx hb d_LA_law_38 rfl (lv_at hl 3 rfl) ?_
      refine va_sld hx hb hX hbl hbA hS hi0 d_LA_law_39 ?_
      refine lv_bipush (v := (15 : Int32)) hx hb d_LA_law_40 (by decide) ?_
      refine lv_iand hx hb d_LA_law_42 ?_
      by_cases k0 : (xs (nI i).toNatClampNeg &&& 15) = 0
      · refine lv_tableIn (off := 73) (tgt := 116) hx hb d_LA_law_43 (by rw [k0]; decide) (by rw [k0]; decide) (by rw [k0]; rfl) (by decide) ?_
        obtain ⟨q, q', e1, e2, e3, e4⟩ := hadd σ τ hRR (xs (nI i + (1 : Int32)).toNatClampNeg) (xs (nI i + (2 : Int32)).toNatClampNeg) (xs (nI i + (3 : Int32)).toNatClampNeg) (xs (nI i + (4 : Int32)).toNatClampNeg)
        refine lv_aload_n hx hb d_LA_law_116 rfl (lv_at hl 1 rfl) ?_
        refine lv_aload_n hx hb d_LA_law_117 rfl (lv_at hl 0 rfl) ?_
        refine lv_iload_n hx hb d_LA_law_118 rfl (lv_at hl 3 rfl) ?_
        refine lv_iconst (v := (1 : Int32)) hx hb d_LA_law_119 (by decide) ?_
        refine lv_iadd hx hb d_LA_law_120 ?_
        refine va_sld hx hb hX hbl hbA hS hi1 d_LA_law_121 ?_
        refine lv_aload_n hx hb d_LA_law_122 rfl (lv_at hl 0 rfl) ?_
        refine lv_iload_n hx hb d_LA_law_123 rfl (lv_at hl 3 rfl) ?_
        refine lv_iconst (v := (2 : Int32)) hx hb d_LA_law_124 (by decide) ?_
        refine lv_iadd hx hb d_LA_law_125 ?_
        refine va_sld hx hb hX hbl hbA hS hi2 d_LA_law_126 ?_
        refine lv_aload_n hx hb d_LA_law_127 rfl (lv_at hl 0 rfl) ?_
        refine lv_iload_n hx hb d_LA_law_128 rfl (lv_at hl 3 rfl) ?_
        refine lv_iconst (v := (3 : Int32)) hx hb d_LA_law_129 (by decide) ?_
        refine lv_iadd hx hb d_LA_law_130 ?_
        refine va_sld hx hb hX hbl hbA hS hi3 d_LA_law_131 ?_
        refine lv_aload_n hx hb d_LA_law_132 rfl (lv_at hl 0 rfl) ?_
        refine lv_iload_n hx hb d_LA_law_133 rfl (lv_at hl 3 rfl) ?_
        refine lv_iconst (v := (4 : Int32)) hx hb d_LA_law_134 (by decide) ?_
        refine lv_iadd hx hb d_LA_law_135 ?_
        refine va_sld hx hb hX hbl hbA hS hi4 d_LA_law_136 ?_
        refine rl_i (wf := (wC a cI cZ)) (wg := (wM b cI cZ)) (τ := τ) (As := [.int (xs (nI i + (1 : Int32)).toNatClampNeg), .int (xs (nI i + (2 : Int32)).toNatClampNeg), .int (xs (nI i + (3 : Int32)).toNatClampNeg), .int (xs (nI i + (4 : Int32)).toNatClampNeg)]) (rest := []) (b := a 0) (q := q) (stC_g t) F (c_SC_add l haC (xs (nI i + (1 : Int32)).toNatClampNeg) (xs (nI i + (2 : Int32)).toNatClampNeg) (xs (nI i + (3 : Int32)).toNatClampNeg) (xs (nI i + (4 : Int32)).toNatClampNeg) σ q e1) (cwV 4 hg gc_LA_21 rfl rfl rfl hs_SC_add ⟨Nat.le_of_ble_eq_true rfl, Nat.le_of_ble_eq_true rfl⟩) hK hTC hP hQ hS hAC (apM τ) (va_recv hK hP (ci := 0) (q0 := 0) rfl rfl) rfl hl.1 rfl (Nat.le_of_ble_eq_true rfl) d_LA_law_137 ⟨Nat.le_of_ble_eq_true rfl, Nat.le_of_ble_eq_true rfl⟩ (fun H locs hP hQ hS => ?_)
        refine lv_aload_n hx hb d_LA_law_140 rfl (lv_at hl 2 rfl) ?_
        refine lv_aload_n hx hb d_LA_law_141 rfl (lv_at hl 0 rfl) ?_
        refine lv_iload_n hx hb d_LA_law_142 rfl (lv_at hl 3 rfl) ?_
        refine lv_iconst (v := (1 : Int32)) hx hb d_LA_law_143 (by decide) ?_
        refine lv_iadd hx hb d_LA_law_144 ?_
        refine va_sld hx hb hX hbl hbA hS hi1 d_LA_law_145 ?_
        refine lv_aload_n hx hb d_LA_law_146 rfl (lv_at hl 0 rfl) ?_
        refine lv_iload_n hx hb d_LA_law_147 rfl (lv_at hl 3 rfl) ?_
        refine lv_iconst (v := (2 : Int32)) hx hb d_LA_law_148 (by decide) ?_
        refine lv_iadd hx hb d_LA_law_149 ?_
        refine va_sld hx hb hX hbl hbA hS hi2 d_LA_law_150 ?_
        refine lv_aload_n hx hb d_LA_law_151 rfl (lv_at hl 0 rfl) ?_
        refine lv_iload_n hx hb d_LA_law_152 rfl (lv_at hl 3 rfl) ?_
        refine lv_iconst (v := (3 : Int32)) hx hb d_LA_law_153 (by decide) ?_
        refine lv_iadd hx hb d_LA_law_154 ?_
        refine va_sld hx hb hX hbl hbA hS hi3 d_LA_law_155 ?_
        refine lv_aload_n hx hb d_LA_law_156 rfl (lv_at hl 0 rfl) ?_
        refine lv_iload_n hx hb d_LA_law_157 rfl (lv_at hl 3 rfl) ?_
        refine lv_iconst (v := (4 : Int32)) hx hb d_LA_law_158 (by decide) ?_
        refine lv_iadd hx hb d_LA_law_159 ?_
        refine va_sld hx hb hX hbl hbA hS hi4 d_LA_law_160 ?_
        refine rl_i (wf := (wM b cI cZ)) (wg := (wC a cI cZ)) (τ := q.2) (As := [.int (xs (nI i + (1 : Int32)).toNatClampNeg), .int (xs (nI i + (2 : Int32)).toNatClampNeg), .int (xs (nI i + (3 : Int32)).toNatClampNeg), .int (xs (nI i + (4 : Int32)).toNatClampNeg)]) (rest := [.int q.1]) (b := b 0) (q := q') (stM_g t) F (c_MO_add l haM (xs (nI i + (1 : Int32)).toNatClampNeg) (xs (nI i + (2 : Int32)).toNatClampNeg) (xs (nI i + (3 : Int32)).toNatClampNeg) (xs (nI i + (4 : Int32)).toNatClampNeg) τ q' e2) (cwV 4 hg gc_LA_25 rfl rfl rfl hs_MO_add ⟨Nat.le_of_ble_eq_true rfl, Nat.le_of_ble_eq_true rfl⟩) hK hTM hQ hP hS hAM (apC q.2) (va_recv hK hQ (ci := 6) (q0 := 0) rfl rfl) rfl hl.1 rfl (Nat.le_of_ble_eq_true rfl) d_LA_law_161 ⟨Nat.le_of_ble_eq_true rfl, Nat.le_of_ble_eq_true rfl⟩ (fun H locs hQ hP hS => ?_)
        refine lv_icmp_eq (tgt := 481) hx hb d_LA_law_164 (by decide) (fun _ => ?_) (fun c2 => absurd e3 c2)
        exact back q.2 q'.2 e4 _ _ hP hQ hS ls hl
      · skip
        by_cases k1 : (xs (nI i).toNatClampNeg &&& 15) = 1
        · refine lv_tableIn (off := 126) (tgt := 169) hx hb d_LA_law_43 (by rw [k1]; decide) (by rw [k1]; decide) (by rw [k1]; rfl) (by decide) ?_
          obtain ⟨q, q', e1, e2, e3, e4⟩ := hset σ τ hRR (xs (nI i + (1 : Int32)).toNatClampNeg) (xs (nI i + (2 : Int32)).toNatClampNeg) (xs (nI i + (3 : Int32)).toNatClampNeg) (xs (nI i + (4 : Int32)).toNatClampNeg) (xs (nI i + (5 : Int32)).toNatClampNeg)
          refine lv_aload_n hx hb d_LA_law_169 rfl (lv_at hl 1 rfl) ?_
          refine lv_aload_n hx hb d_LA_law_170 rfl (lv_at hl 0 rfl) ?_
          refine lv_iload_n hx hb d_LA_law_171 rfl (lv_at hl 3 rfl) ?_
          refine lv_iconst (v := (1 : Int32)) hx hb d_LA_law_172 (by decide) ?_
          refine lv_iadd hx hb d_LA_law_173 ?_
          refine va_sld hx hb hX hbl hbA hS hi1 d_LA_law_174 ?_
          refine lv_aload_n hx hb d_LA_law_175 rfl (lv_at hl 0 rfl) ?_
          refine lv_iload_n hx hb d_LA_law_176 rfl (lv_at hl 3 rfl) ?_
          refine lv_iconst (v := (2 : Int32)) hx hb d_LA_law_177 (by decide) ?_
          refine lv_iadd hx hb d_LA_law_178 ?_
          refine va_sld hx hb hX hbl hbA hS hi2 d_LA_law_179 ?_
          refine lv_aload_n hx hb d_LA_law_180 rfl (lv_at hl 0 rfl) ?_
          refine lv_iload_n hx hb d_LA_law_181 rfl (lv_at hl 3 rfl) ?_
          refine lv_iconst (v := (3 : Int32)) hx hb d_LA_law_182 (by decide) ?_
          refine lv_iadd hx hb d_LA_law_183 ?_
          refine va_sld hx hb hX hbl hbA hS hi3 d_LA_law_184 ?_
          refine lv_aload_n hx hb d_LA_law_185 rfl (lv_at hl 0 rfl) ?_
          refine lv_iload_n hx hb d_LA_law_186 rfl (lv_at hl 3 rfl) ?_
          refine lv_iconst (v := (4 : Int32)) hx hb d_LA_law_187 (by decide) ?_
          refine lv_iadd hx hb d_LA_law_188 ?_
          refine va_sld hx hb hX hbl hbA hS hi4 d_LA_law_189 ?_
          refine lv_aload_n hx hb d_LA_law_190 rfl (lv_at hl 0 rfl) ?_
          refine lv_iload_n hx hb d_LA_law_191 rfl (lv_at hl 3 rfl) ?_
          refine lv_iconst (v := (5 : Int32)) hx hb d_LA_law_192 (by decide) ?_
          refine lv_iadd hx hb d_LA_law_193 ?_
          refine va_sld hx hb hX hbl hbA hS hi5 d_LA_law_194 ?_
          refine rl_i (wf := (wC a cI cZ)) (wg := (wM b cI cZ)) (τ := τ) (As := [.int (xs (nI i + (1 : Int32)).toNatClampNeg), .int (xs (nI i + (2 : Int32)).toNatClampNeg), .int (xs (nI i + (3 : Int32)).toNatClampNeg), .int (xs (nI i + (4 : Int32)).toNatClampNeg), .int (xs (nI i + (5 : Int32)).toNatClampNeg)]) (rest := []) (b := a 0) (q := q) (stC_g t) F (c_SC_set l haC (xs (nI i + (1 : Int32)).toNatClampNeg) (xs (nI i + (2 : Int32)).toNatClampNeg) (xs (nI i + (3 : Int32)).toNatClampNeg) (xs (nI i + (4 : Int32)).toNatClampNeg) (xs (nI i + (5 : Int32)).toNatClampNeg) σ q e1) (cwV 5 hg gc_LA_26 rfl rfl rfl hs_SC_set ⟨Nat.le_of_ble_eq_true rfl, Nat.le_of_ble_eq_true rfl⟩) hK hTC hP hQ hS hAC (apM τ) (va_recv hK hP (ci := 0) (q0 := 0) rfl rfl) rfl hl.1 rfl (Nat.le_of_ble_eq_true rfl) d_LA_law_195 ⟨Nat.le_of_ble_eq_true rfl, Nat.le_of_ble_eq_true rfl⟩ (fun H locs hP hQ hS => ?_)
          refine lv_aload_n hx hb d_LA_law_198 rfl (lv_at hl 2 rfl) ?_
          refine lv_aload_n hx hb d_LA_law_199 rfl (lv_at hl 0 rfl) ?_
          refine lv_iload_n hx hb d_LA_law_200 rfl (lv_at hl 3 rfl) ?_
          refine lv_iconst (v := (1 : Int32)) hx hb d_LA_law_201 (by decide) ?_
          refine lv_iadd hx hb d_LA_law_202 ?_
          refine va_sld hx hb hX hbl hbA hS hi1 d_LA_law_203 ?_
          refine lv_aload_n hx hb d_LA_law_204 rfl (lv_at hl 0 rfl) ?_
          refine lv_iload_n hx hb d_LA_law_205 rfl (lv_at hl 3 rfl) ?_
          refine lv_iconst (v := (2 : Int32)) hx hb d_LA_law_206 (by decide) ?_
          refine lv_iadd hx hb d_LA_law_207 ?_
          refine va_sld hx hb hX hbl hbA hS hi2 d_LA_law_208 ?_
          refine lv_aload_n hx hb d_LA_law_209 rfl (lv_at hl 0 rfl) ?_
          refine lv_iload_n hx hb d_LA_law_210 rfl (lv_at hl 3 rfl) ?_
          refine lv_iconst (v := (3 : Int32)) hx hb d_LA_law_211 (by decide) ?_
          refine lv_iadd hx hb d_LA_law_212 ?_
          refine va_sld hx hb hX hbl hbA hS hi3 d_LA_law_213 ?_
          refine lv_aload_n hx hb d_LA_law_214 rfl (lv_at hl 0 rfl) ?_
          refine lv_iload_n hx hb d_LA_law_215 rfl (lv_at hl 3 rfl) ?_
          refine lv_iconst (v := (4 : Int32)) hx hb d_LA_law_216 (by decide) ?_
          refine lv_iadd hx hb d_LA_law_217 ?_
          refine va_sld hx hb hX hbl hbA hS hi4 d_LA_law_218 ?_
          refine lv_aload_n hx hb d_LA_law_219 rfl (lv_at hl 0 rfl) ?_
          refine lv_iload_n hx hb d_LA_law_220 rfl (lv_at hl 3 rfl) ?_
          refine lv_iconst (v := (5 : Int32)) hx hb d_LA_law_221 (by decide) ?_
          refine lv_iadd hx hb d_LA_law_222 ?_
          refine va_sld hx hb hX hbl hbA hS hi5 d_LA_law_223 ?_
          refine rl_i (wf := (wM b cI cZ)) (wg := (wC a cI cZ)) (τ := q.2) (As := [.int (xs (nI i + (1 : Int32)).toNatClampNeg), .int (xs (nI i + (2 : Int32)).toNatClampNeg), .int (xs (nI i + (3 : Int32)).toNatClampNeg), .int (xs (nI i + (4 : Int32)).toNatClampNeg), .int (xs (nI i + (5 : Int32)).toNatClampNeg)]) (rest := [.int q.1]) (b := b 0) (q := q') (stM_g t) F (c_MO_set l haM (xs (nI i + (1 : Int32)).toNatClampNeg) (xs (nI i + (2 : Int32)).toNatClampNeg) (xs (nI i + (3 : Int32)).toNatClampNeg) (xs (nI i + (4 : Int32)).toNatClampNeg) (xs (nI i + (5 : Int32)).toNatClampNeg) τ q' e2) (cwV 5 hg gc_LA_30 rfl rfl rfl hs_MO_set ⟨Nat.le_of_ble_eq_true rfl, Nat.le_of_ble_eq_true rfl⟩) hK hTM hQ hP hS hAM (apC q.2) (va_recv hK hQ (ci := 6) (q0 := 0) rfl rfl) rfl hl.1 rfl (Nat.le_of_ble_eq_true rfl) d_LA_law_224 ⟨Nat.le_of_ble_eq_true rfl, Nat.le_of_ble_eq_true rfl⟩ (fun H locs hQ hP hS => ?_)
          refine lv_icmp_eq (tgt := 481) hx hb d_LA_law_227 (by decide) (fun _ => ?_) (fun c2 => absurd e3 c2)
          exact back q.2 q'.2 e4 _ _ hP hQ hS ls hl
        · skip
          by_cases k2 : (xs (nI i).toNatClampNeg &&& 15) = 2
          · refine lv_tableIn (off := 189) (tgt := 232) hx hb d_LA_law_43 (by rw [k2]; decide) (by rw [k2]; decide) (by rw [k2]; rfl) (by decide) ?_
            obtain ⟨q, q', e1, e2, e3, e4⟩ := hcut σ τ hRR (xs (nI i + (1 : Int32)).toNatClampNeg)
            refine lv_aload_n hx hb d_LA_law_232 rfl (lv_at hl 1 rfl) ?_
            refine lv_aload_n hx hb d_LA_law_233 rfl (lv_at hl 0 rfl) ?_
            refine lv_iload_n hx hb d_LA_law_234 rfl (lv_at hl 3 rfl) ?_
            refine lv_iconst (v := (1 : Int32)) hx hb d_LA_law_235 (by decide) ?_
            refine lv_iadd hx hb d_LA_law_236 ?_
            refine va_sld hx hb hX hbl hbA hS hi1 d_LA_law_237 ?_
            refine rl_i (wf := (wC a cI cZ)) (wg := (wM b cI cZ)) (τ := τ) (As := [.int (xs (nI i + (1 : Int32)).toNatClampNeg)]) (rest := []) (b := a 0) (q := q) (stC_g t) F (c_SC_cut l haC (xs (nI i + (1 : Int32)).toNatClampNeg) σ q e1) (cwV 1 hg gc_LA_31 rfl rfl rfl hs_SC_cut ⟨Nat.le_of_ble_eq_true rfl, Nat.le_of_ble_eq_true rfl⟩) hK hTC hP hQ hS hAC (apM τ) (va_recv hK hP (ci := 0) (q0 := 0) rfl rfl) rfl hl.1 rfl (Nat.le_of_ble_eq_true rfl) d_LA_law_238 ⟨Nat.le_of_ble_eq_true rfl, Nat.le_of_ble_eq_true rfl⟩ (fun H locs hP hQ hS => ?_)
            refine lv_aload_n hx hb d_LA_law_241 rfl (lv_at hl 2 rfl) ?_
            refine lv_aload_n hx hb d_LA_law_242 rfl (lv_at hl 0 rfl) ?_
            refine lv_iload_n hx hb d_LA_law_243 rfl (lv_at hl 3 rfl) ?_
            refine lv_iconst (v := (1 : Int32)) hx hb d_LA_law_244 (by decide) ?_
            refine lv_iadd hx hb d_LA_law_245 ?_
            refine va_sld hx hb hX hbl hbA hS hi1 d_LA_law_246 ?_
            refine rl_i (wf := (wM b cI cZ)) (wg := (wC a cI cZ)) (τ := q.2) (As := [.int (xs (nI i + (1 : Int32)).toNatClampNeg)]) (rest := [.int q.1]) (b := b 0) (q := q') (stM_g t) F (c_MO_cut l haM (xs (nI i + (1 : Int32)).toNatClampNeg) τ q' e2) (cwV 1 hg gc_LA_35 rfl rfl rfl hs_MO_cut ⟨Nat.le_of_ble_eq_true rfl, Nat.le_of_ble_eq_true rfl⟩) hK hTM hQ hP hS hAM (apC q.2) (va_recv hK hQ (ci := 6) (q0 := 0) rfl rfl) rfl hl.1 rfl (Nat.le_of_ble_eq_true rfl) d_LA_law_247 ⟨Nat.le_of_ble_eq_true rfl, Nat.le_of_ble_eq_true rfl⟩ (fun H locs hQ hP hS => ?_)
            refine lv_icmp_eq (tgt := 481) hx hb d_LA_law_250 (by decide) (fun _ => ?_) (fun c2 => absurd e3 c2)
            exact back q.2 q'.2 e4 _ _ hP hQ hS ls hl
          · skip
            by_cases k3 : (xs (nI i).toNatClampNeg &&& 15) = 3
            · refine lv_tableIn (off := 212) (tgt := 255) hx hb d_LA_law_43 (by rw [k3]; decide) (by rw [k3]; decide) (by rw [k3]; rfl) (by decide) ?_
              obtain ⟨q, q', e1, e2, e3, e4⟩ := hsize σ τ hRR
              refine lv_aload_n hx hb d_LA_law_255 rfl (lv_at hl 1 rfl) ?_
              refine rl_i (wf := (wC a cI cZ)) (wg := (wM b cI cZ)) (τ := τ) (As := []) (rest := []) (b := a 0) (q := q) (stC_g t) F (c_SC_size l haC σ q e1) (cwV 0 hg gc_LA_36 rfl rfl rfl hs_SC_size ⟨Nat.le_of_ble_eq_true rfl, Nat.le_of_ble_eq_true rfl⟩) hK hTC hP hQ hS hAC (apM τ) (va_recv hK hP (ci := 0) (q0 := 0) rfl rfl) rfl hl.1 rfl (Nat.le_of_ble_eq_true rfl) d_LA_law_256 ⟨Nat.le_of_ble_eq_true rfl, Nat.le_of_ble_eq_true rfl⟩ (fun H locs hP hQ hS => ?_)
              refine lv_aload_n hx hb d_LA_law_259 rfl (lv_at hl 2 rfl) ?_
              refine rl_i (wf := (wM b cI cZ)) (wg := (wC a cI cZ)) (τ := q.2) (As := []) (rest := [.int q.1]) (b := b 0) (q := q') (stM_g t) F (c_MO_size l haM τ q' e2) (cwV 0 hg gc_LA_40 rfl rfl rfl hs_MO_size ⟨Nat.le_of_ble_eq_true rfl, Nat.le_of_ble_eq_true rfl⟩) hK hTM hQ hP hS hAM (apC q.2) (va_recv hK hQ (ci := 6) (q0 := 0) rfl rfl) rfl hl.1 rfl (Nat.le_of_ble_eq_true rfl) d_LA_law_260 ⟨Nat.le_of_ble_eq_true rfl, Nat.le_of_ble_eq_true rfl⟩ (fun H locs hQ hP hS => ?_)
              refine lv_icmp_eq (tgt := 481) hx hb d_LA_law_263 (by decide) (fun _ => ?_) (fun c2 => absurd e3 c2)
              exact back q.2 q'.2 e4 _ _ hP hQ hS ls hl
            · skip
              by_cases k4 : (xs (nI i).toNatClampNeg &&& 15) = 4
              · refine lv_tableIn (off := 225) (tgt := 268) hx hb d_LA_law_43 (by rw [k4]; decide) (by rw [k4]; decide) (by rw [k4]; rfl) (by decide) ?_
                obtain ⟨q, q', e1, e2, e3, e4⟩ := hlength σ τ hRR
                refine lv_aload_n hx hb d_LA_law_268 rfl (lv_at hl 1 rfl) ?_
                refine rl_i (wf := (wC a cI cZ)) (wg := (wM b cI cZ)) (τ := τ) (As := []) (rest := []) (b := a 0) (q := q) (stC_g t) F (c_SC_length l haC σ q e1) (cwV 0 hg gc_LA_41 rfl rfl rfl hs_SC_length ⟨Nat.le_of_ble_eq_true rfl, Nat.le_of_ble_eq_true rfl⟩) hK hTC hP hQ hS hAC (apM τ) (va_recv hK hP (ci := 0) (q0 := 0) rfl rfl) rfl hl.1 rfl (Nat.le_of_ble_eq_true rfl) d_LA_law_269 ⟨Nat.le_of_ble_eq_true rfl, Nat.le_of_ble_eq_true rfl⟩ (fun H locs hP hQ hS => ?_)
                refine lv_aload_n hx hb d_LA_law_272 rfl (lv_at hl 2 rfl) ?_
                refine rl_i (wf := (wM b cI cZ)) (wg := (wC a cI cZ)) (τ := q.2) (As := []) (rest := [.int q.1]) (b := b 0) (q := q') (stM_g t) F (c_MO_length l haM τ q' e2) (cwV 0 hg gc_LA_44 rfl rfl rfl hs_MO_length ⟨Nat.le_of_ble_eq_true rfl, Nat.le_of_ble_eq_true rfl⟩) hK hTM hQ hP hS hAM (apC q.2) (va_recv hK hQ (ci := 6) (q0 := 0) rfl rfl) rfl hl.1 rfl (Nat.le_of_ble_eq_true rfl) d_LA_law_273 ⟨Nat.le_of_ble_eq_true rfl, Nat.le_of_ble_eq_true rfl⟩ (fun H locs hQ hP hS => ?_)
                refine lv_icmp_eq (tgt := 481) hx hb d_LA_law_276 (by decide) (fun _ => ?_) (fun c2 => absurd e3 c2)
                exact back q.2 q'.2 e4 _ _ hP hQ hS ls hl
              · skip
                by_cases k5 : (xs (nI i).toNatClampNeg &&& 15) = 5
                · refine lv_tableIn (off := 238) (tgt := 281) hx hb d_LA_law_43 (by rw [k5]; decide) (by rw [k5]; decide) (by rw [k5]; rfl) (by decide) ?_
                  obtain ⟨q, q', e1, e2, e3, e4⟩ := hcode σ τ hRR (xs (nI i + (1 : Int32)).toNatClampNeg)
                  refine lv_aload_n hx hb d_LA_law_281 rfl (lv_at hl 1 rfl) ?_
                  refine lv_aload_n hx hb d_LA_law_282 rfl (lv_at hl 0 rfl) ?_
                  refine lv_iload_n hx hb d_LA_law_283 rfl (lv_at hl 3 rfl) ?_
                  refine lv_iconst (v := (1 : Int32)) hx hb d_LA_law_284 (by decide) ?_
                  refine lv_iadd hx hb d_LA_law_285 ?_
                  refine va_sld hx hb hX hbl hbA hS hi1 d_LA_law_286 ?_
                  refine rl_i (wf := (wC a cI cZ)) (wg := (wM b cI cZ)) (τ := τ) (As := [.int (xs (nI i + (1 : Int32)).toNatClampNeg)]) (rest := []) (b := a 0) (q := q) (stC_g t) F (c_SC_code l haC (xs (nI i + (1 : Int32)).toNatClampNeg) σ q e1) (cwV 1 hg gc_LA_45 rfl rfl rfl hs_SC_code ⟨Nat.le_of_ble_eq_true rfl, Nat.le_of_ble_eq_true rfl⟩) hK hTC hP hQ hS hAC (apM τ) (va_recv hK hP (ci := 0) (q0 := 0) rfl rfl) rfl hl.1 rfl (Nat.le_of_ble_eq_true rfl) d_LA_law_287 ⟨Nat.le_of_ble_eq_true rfl, Nat.le_of_ble_eq_true rfl⟩ (fun H locs hP hQ hS => ?_)
                  refine lv_aload_n hx hb d_LA_law_290 rfl (lv_at hl 2 rfl) ?_
                  refine lv_aload_n hx hb d_LA_law_291 rfl (lv_at hl 0 rfl) ?_
                  refine lv_iload_n hx hb d_LA_law_292 rfl (lv_at hl 3 rfl) ?_
                  refine lv_iconst (v := (1 : Int32)) hx hb d_LA_law_293 (by decide) ?_
                  refine lv_iadd hx hb d_LA_law_294 ?_
                  refine va_sld hx hb hX hbl hbA hS hi1 d_LA_law_295 ?_
                  refine rl_i (wf := (wM b cI cZ)) (wg := (wC a cI cZ)) (τ := q.2) (As := [.int (xs (nI i + (1 : Int32)).toNatClampNeg)]) (rest := [.int q.1]) (b := b 0) (q := q') (stM_g t) F (c_MO_code l haM (xs (nI i + (1 : Int32)).toNatClampNeg) τ q' e2) (cwV 1 hg gc_LA_49 rfl rfl rfl hs_MO_code ⟨Nat.le_of_ble_eq_true rfl, Nat.le_of_ble_eq_true rfl⟩) hK hTM hQ hP hS hAM (apC q.2) (va_recv hK hQ (ci := 6) (q0 := 0) rfl rfl) rfl hl.1 rfl (Nat.le_of_ble_eq_true rfl) d_LA_law_296 ⟨Nat.le_of_ble_eq_true rfl, Nat.le_of_ble_eq_true rfl⟩ (fun H locs hQ hP hS => ?_)
                  refine lv_icmp_eq (tgt := 481) hx hb d_LA_law_299 (by decide) (fun _ => ?_) (fun c2 => absurd e3 c2)
                  exact back q.2 q'.2 e4 _ _ hP hQ hS ls hl
                · skip
                  by_cases k6 : (xs (nI i).toNatClampNeg &&& 15) = 6
                  · refine lv_tableIn (off := 261) (tgt := 304) hx hb d_LA_law_43 (by rw [k6]; decide) (by rw [k6]; decide) (by rw [k6]; rfl) (by decide) ?_
                    obtain ⟨q, q', e1, e2, e3, e4⟩ := hcarried σ τ hRR (xs (nI i + (1 : Int32)).toNatClampNeg)
                    refine lv_aload_n hx hb d_LA_law_304 rfl (lv_at hl 1 rfl) ?_
                    refine lv_aload_n hx hb d_LA_law_305 rfl (lv_at hl 0 rfl) ?_
                    refine lv_iload_n hx hb d_LA_law_306 rfl (lv_at hl 3 rfl) ?_
                    refine lv_iconst (v := (1 : Int32)) hx hb d_LA_law_307 (by decide) ?_
                    refine lv_iadd hx hb d_LA_law_308 ?_
                    refine va_sld hx hb hX hbl hbA hS hi1 d_LA_law_309 ?_
                    refine rl_i (wf := (wC a cI cZ)) (wg := (wM b cI cZ)) (τ := τ) (As := [.int (xs (nI i + (1 : Int32)).toNatClampNeg)]) (rest := []) (b := a 0) (q := q) (stC_g t) F (c_SC_carried l haC (xs (nI i + (1 : Int32)).toNatClampNeg) σ q e1) (cwV 1 hg gc_LA_50 rfl rfl rfl hs_SC_carried ⟨Nat.le_of_ble_eq_true rfl, Nat.le_of_ble_eq_true rfl⟩) hK hTC hP hQ hS hAC (apM τ) (va_recv hK hP (ci := 0) (q0 := 0) rfl rfl) rfl hl.1 rfl (Nat.le_of_ble_eq_true rfl) d_LA_law_310 ⟨Nat.le_of_ble_eq_true rfl, Nat.le_of_ble_eq_true rfl⟩ (fun H locs hP hQ hS => ?_)
                    refine lv_aload_n hx hb d_LA_law_313 rfl (lv_at hl 2 rfl) ?_
                    refine lv_aload_n hx hb d_LA_law_314 rfl (lv_at hl 0 rfl) ?_
                    refine lv_iload_n hx hb d_LA_law_315 rfl (lv_at hl 3 rfl) ?_
                    refine lv_iconst (v := (1 : Int32)) hx hb d_LA_law_316 (by decide) ?_
                    refine lv_iadd hx hb d_LA_law_317 ?_
                    refine va_sld hx hb hX hbl hbA hS hi1 d_LA_law_318 ?_
                    refine rl_i (wf := (wM b cI cZ)) (wg := (wC a cI cZ)) (τ := q.2) (As := [.int (xs (nI i + (1 : Int32)).toNatClampNeg)]) (rest := [.int q.1]) (b := b 0) (q := q') (stM_g t) F (c_MO_carried l haM (xs (nI i + (1 : Int32)).toNatClampNeg) τ q' e2) (cwV 1 hg gc_LA_53 rfl rfl rfl hs_MO_carried ⟨Nat.le_of_ble_eq_true rfl, Nat.le_of_ble_eq_true rfl⟩) hK hTM hQ hP hS hAM (apC q.2) (va_recv hK hQ (ci := 6) (q0 := 0) rfl rfl) rfl hl.1 rfl (Nat.le_of_ble_eq_true rfl) d_LA_law_319 ⟨Nat.le_of_ble_eq_true rfl, Nat.le_of_ble_eq_true rfl⟩ (fun H locs hQ hP hS => ?_)
                    refine lv_icmp_eq (tgt := 481) hx hb d_LA_law_322 (by decide) (fun _ => ?_) (fun c2 => absurd e3 c2)
                    exact back q.2 q'.2 e4 _ _ hP hQ hS ls hl
                  · skip
                    by_cases k7 : (xs (nI i).toNatClampNeg &&& 15) = 7
                    · refine lv_tableIn (off := 284) (tgt := 327) hx hb d_LA_law_43 (by rw [k7]; decide) (by rw [k7]; decide) (by rw [k7]; rfl) (by decide) ?_
                      obtain ⟨q, q', e1, e2, e3, e4⟩ := hneed σ τ hRR (xs (nI i + (1 : Int32)).toNatClampNeg)
                      refine lv_aload_n hx hb d_LA_law_327 rfl (lv_at hl 1 rfl) ?_
                      refine lv_aload_n hx hb d_LA_law_328 rfl (lv_at hl 0 rfl) ?_
                      refine lv_iload_n hx hb d_LA_law_329 rfl (lv_at hl 3 rfl) ?_
                      refine lv_iconst (v := (1 : Int32)) hx hb d_LA_law_330 (by decide) ?_
                      refine lv_iadd hx hb d_LA_law_331 ?_
                      refine va_sld hx hb hX hbl hbA hS hi1 d_LA_law_332 ?_
                      refine rl_i (wf := (wC a cI cZ)) (wg := (wM b cI cZ)) (τ := τ) (As := [.int (xs (nI i + (1 : Int32)).toNatClampNeg)]) (rest := []) (b := a 0) (q := q) (stC_g t) F (c_SC_need l haC (xs (nI i + (1 : Int32)).toNatClampNeg) σ q e1) (cwV 1 hg gc_LA_54 rfl rfl rfl hs_SC_need ⟨Nat.le_of_ble_eq_true rfl, Nat.le_of_ble_eq_true rfl⟩) hK hTC hP hQ hS hAC (apM τ) (va_recv hK hP (ci := 0) (q0 := 0) rfl rfl) rfl hl.1 rfl (Nat.le_of_ble_eq_true rfl) d_LA_law_333 ⟨Nat.le_of_ble_eq_true rfl, Nat.le_of_ble_eq_true rfl⟩ (fun H locs hP hQ hS => ?_)
                      refine lv_aload_n hx hb d_LA_law_336 rfl (lv_at hl 2 rfl) ?_
                      refine lv_aload_n hx hb d_LA_law_337 rfl (lv_at hl 0 rfl) ?_
                      refine lv_iload_n hx hb d_LA_law_338 rfl (lv_at hl 3 rfl) ?_
                      refine lv_iconst (v := (1 : Int32)) hx hb d_LA_law_339 (by decide) ?_
                      refine lv_iadd hx hb d_LA_law_340 ?_
                      refine va_sld hx hb hX hbl hbA hS hi1 d_LA_law_341 ?_
                      refine rl_i (wf := (wM b cI cZ)) (wg := (wC a cI cZ)) (τ := q.2) (As := [.int (xs (nI i + (1 : Int32)).toNatClampNeg)]) (rest := [.int q.1]) (b := b 0) (q := q') (stM_g t) F (c_MO_need l haM (xs (nI i + (1 : Int32)).toNatClampNeg) τ q' e2) (cwV 1 hg gc_LA_57 rfl rfl rfl hs_MO_need ⟨Nat.le_of_ble_eq_true rfl, Nat.le_of_ble_eq_true rfl⟩) hK hTM hQ hP hS hAM (apC q.2) (va_recv hK hQ (ci := 6) (q0 := 0) rfl rfl) rfl hl.1 rfl (Nat.le_of_ble_eq_true rfl) d_LA_law_342 ⟨Nat.le_of_ble_eq_true rfl, Nat.le_of_ble_eq_true rfl⟩ (fun H locs hQ hP hS => ?_)
                      refine lv_icmp_eq (tgt := 481) hx hb d_LA_law_345 (by decide) (fun _ => ?_) (fun c2 => absurd e3 c2)
                      exact back q.2 q'.2 e4 _ _ hP hQ hS ls hl
                    · skip
                      by_cases k8 : (xs (nI i).toNatClampNeg &&& 15) = 8
                      · refine lv_tableIn (off := 307) (tgt := 350) hx hb d_LA_law_43 (by rw [k8]; decide) (by rw [k8]; decide) (by rw [k8]; rfl) (by decide) ?_
                        obtain ⟨q, q', e1, e2, e3, e4⟩ := hlive σ τ hRR (xs (nI i + (1 : Int32)).toNatClampNeg)
                        refine lv_aload_n hx hb d_LA_law_350 rfl (lv_at hl 1 rfl) ?_
                        refine lv_aload_n hx hb d_LA_law_351 rfl (lv_at hl 0 rfl) ?_
                        refine lv_iload_n hx hb d_LA_law_352 rfl (lv_at hl 3 rfl) ?_
                        refine lv_iconst (v := (1 : Int32)) hx hb d_LA_law_353 (by decide) ?_
                        refine lv_iadd hx hb d_LA_law_354 ?_
                        refine va_sld hx hb hX hbl hbA hS hi1 d_LA_law_355 ?_
                        refine rl_i (wf := (wC a cI cZ)) (wg := (wM b cI cZ)) (τ := τ) (As := [.int (xs (nI i + (1 : Int32)).toNatClampNeg)]) (rest := []) (b := a 0) (q := q) (stC_g t) F (c_SC_live l haC (xs (nI i + (1 : Int32)).toNatClampNeg) σ q e1) (cwV 1 hg gc_LA_58 rfl rfl rfl hs_SC_live ⟨Nat.le_of_ble_eq_true rfl, Nat.le_of_ble_eq_true rfl⟩) hK hTC hP hQ hS hAC (apM τ) (va_recv hK hP (ci := 0) (q0 := 0) rfl rfl) rfl hl.1 rfl (Nat.le_of_ble_eq_true rfl) d_LA_law_356 ⟨Nat.le_of_ble_eq_true rfl, Nat.le_of_ble_eq_true rfl⟩ (fun H locs hP hQ hS => ?_)
                        refine lv_aload_n hx hb d_LA_law_359 rfl (lv_at hl 2 rfl) ?_
                        refine lv_aload_n hx hb d_LA_law_360 rfl (lv_at hl 0 rfl) ?_
                        refine lv_iload_n hx hb d_LA_law_361 rfl (lv_at hl 3 rfl) ?_
                        refine lv_iconst (v := (1 : Int32)) hx hb d_LA_law_362 (by decide) ?_
                        refine lv_iadd hx hb d_LA_law_363 ?_
                        refine va_sld hx hb hX hbl hbA hS hi1 d_LA_law_364 ?_
                        refine rl_i (wf := (wM b cI cZ)) (wg := (wC a cI cZ)) (τ := q.2) (As := [.int (xs (nI i + (1 : Int32)).toNatClampNeg)]) (rest := [.int q.1]) (b := b 0) (q := q') (stM_g t) F (c_MO_live l haM (xs (nI i + (1 : Int32)).toNatClampNeg) τ q' e2) (cwV 1 hg gc_LA_61 rfl rfl rfl hs_MO_live ⟨Nat.le_of_ble_eq_true rfl, Nat.le_of_ble_eq_true rfl⟩) hK hTM hQ hP hS hAM (apC q.2) (va_recv hK hQ (ci := 6) (q0 := 0) rfl rfl) rfl hl.1 rfl (Nat.le_of_ble_eq_true rfl) d_LA_law_365 ⟨Nat.le_of_ble_eq_true rfl, Nat.le_of_ble_eq_true rfl⟩ (fun H locs hQ hP hS => ?_)
                        refine lv_icmp_eq (tgt := 481) hx hb d_LA_law_368 (by decide) (fun _ => ?_) (fun c2 => absurd e3 c2)
                        exact back q.2 q'.2 e4 _ _ hP hQ hS ls hl
                      · skip
                        by_cases k9 : (xs (nI i).toNatClampNeg &&& 15) = 9
                        · refine lv_tableIn (off := 330) (tgt := 373) hx hb d_LA_law_43 (by rw [k9]; decide) (by rw [k9]; decide) (by rw [k9]; rfl) (by decide) ?_
                          obtain ⟨q, q', e1, e2, e3, e4⟩ := hstores σ τ hRR
                          refine lv_aload_n hx hb d_LA_law_373 rfl (lv_at hl 1 rfl) ?_
                          refine rl_i (wf := (wC a cI cZ)) (wg := (wM b cI cZ)) (τ := τ) (As := []) (rest := []) (b := a 0) (q := q) (stC_g t) F (c_SC_stores l haC σ q e1) (cwV 0 hg gc_LA_62 rfl rfl rfl hs_SC_stores ⟨Nat.le_of_ble_eq_true rfl, Nat.le_of_ble_eq_true rfl⟩) hK hTC hP hQ hS hAC (apM τ) (va_recv hK hP (ci := 0) (q0 := 0) rfl rfl) rfl hl.1 rfl (Nat.le_of_ble_eq_true rfl) d_LA_law_374 ⟨Nat.le_of_ble_eq_true rfl, Nat.le_of_ble_eq_true rfl⟩ (fun H locs hP hQ hS => ?_)
                          refine lv_aload_n hx hb d_LA_law_377 rfl (lv_at hl 2 rfl) ?_
                          refine rl_i (wf := (wM b cI cZ)) (wg := (wC a cI cZ)) (τ := q.2) (As := []) (rest := [.int q.1]) (b := b 0) (q := q') (stM_g t) F (c_MO_stores l haM τ q' e2) (cwV 0 hg gc_LA_65 rfl rfl rfl hs_MO_stores ⟨Nat.le_of_ble_eq_true rfl, Nat.le_of_ble_eq_true rfl⟩) hK hTM hQ hP hS hAM (apC q.2) (va_recv hK hQ (ci := 6) (q0 := 0) rfl rfl) rfl hl.1 rfl (Nat.le_of_ble_eq_true rfl) d_LA_law_378 ⟨Nat.le_of_ble_eq_true rfl, Nat.le_of_ble_eq_true rfl⟩ (fun H locs hQ hP hS => ?_)
                          refine lv_icmp_eq (tgt := 481) hx hb d_LA_law_381 (by decide) (fun _ => ?_) (fun c2 => absurd e3 c2)
                          exact back q.2 q'.2 e4 _ _ hP hQ hS ls hl
                        · skip
                          by_cases k10 : (xs (nI i).toNatClampNeg &&& 15) = 10
                          · refine lv_tableIn (off := 343) (tgt := 386) hx hb d_LA_law_43 (by rw [k10]; decide) (by rw [k10]; decide) (by rw [k10]; rfl) (by decide) ?_
                            obtain ⟨q, q', e1, e2, e3, e4⟩ := hdepth σ τ hRR
                            refine lv_aload_n hx hb d_LA_law_386 rfl (lv_at hl 1 rfl) ?_
                            refine rl_i (wf := (wC a cI cZ)) (wg := (wM b cI cZ)) (τ := τ) (As := []) (rest := []) (b := a 0) (q := q) (stC_g t) F (c_SC_depth l haC σ q e1) (cwV 0 hg gc_LA_66 rfl rfl rfl hs_SC_depth ⟨Nat.le_of_ble_eq_true rfl, Nat.le_of_ble_eq_true rfl⟩) hK hTC hP hQ hS hAC (apM τ) (va_recv hK hP (ci := 0) (q0 := 0) rfl rfl) rfl hl.1 rfl (Nat.le_of_ble_eq_true rfl) d_LA_law_387 ⟨Nat.le_of_ble_eq_true rfl, Nat.le_of_ble_eq_true rfl⟩ (fun H locs hP hQ hS => ?_)
                            refine lv_aload_n hx hb d_LA_law_390 rfl (lv_at hl 2 rfl) ?_
                            refine rl_i (wf := (wM b cI cZ)) (wg := (wC a cI cZ)) (τ := q.2) (As := []) (rest := [.int q.1]) (b := b 0) (q := q') (stM_g t) F (c_MO_depth l haM τ q' e2) (cwV 0 hg gc_LA_69 rfl rfl rfl hs_MO_depth ⟨Nat.le_of_ble_eq_true rfl, Nat.le_of_ble_eq_true rfl⟩) hK hTM hQ hP hS hAM (apC q.2) (va_recv hK hQ (ci := 6) (q0 := 0) rfl rfl) rfl hl.1 rfl (Nat.le_of_ble_eq_true rfl) d_LA_law_391 ⟨Nat.le_of_ble_eq_true rfl, Nat.le_of_ble_eq_true rfl⟩ (fun H locs hQ hP hS => ?_)
                            refine lv_icmp_eq (tgt := 481) hx hb d_LA_law_394 (by decide) (fun _ => ?_) (fun c2 => absurd e3 c2)
                            exact back q.2 q'.2 e4 _ _ hP hQ hS ls hl
                          · skip
                            by_cases k11 : (xs (nI i).toNatClampNeg &&& 15) = 11
                            · refine lv_tableIn (off := 356) (tgt := 399) hx hb d_LA_law_43 (by rw [k11]; decide) (by rw [k11]; decide) (by rw [k11]; rfl) (by decide) ?_
                              obtain ⟨q, q', e1, e2, e3, e4⟩ := hrun σ τ hRR (xs (nI i + (1 : Int32)).toNatClampNeg)
                              refine lv_aload_n hx hb d_LA_law_399 rfl (lv_at hl 1 rfl) ?_
                              refine lv_aload_n hx hb d_LA_law_400 rfl (lv_at hl 0 rfl) ?_
                              refine lv_iload_n hx hb d_LA_law_401 rfl (lv_at hl 3 rfl) ?_
                              refine lv_iconst (v := (1 : Int32)) hx hb d_LA_law_402 (by decide) ?_
                              refine lv_iadd hx hb d_LA_law_403 ?_
                              refine va_sld hx hb hX hbl hbA hS hi1 d_LA_law_404 ?_
                              refine rl_i (wf := (wC a cI cZ)) (wg := (wM b cI cZ)) (τ := τ) (As := [.int (xs (nI i + (1 : Int32)).toNatClampNeg)]) (rest := []) (b := a 0) (q := q) (stC_g t) F (c_SC_run l haC (xs (nI i + (1 : Int32)).toNatClampNeg) σ q e1) (cwV 1 hg gc_LA_70 rfl rfl rfl hs_SC_run ⟨Nat.le_of_ble_eq_true rfl, Nat.le_of_ble_eq_true rfl⟩) hK hTC hP hQ hS hAC (apM τ) (va_recv hK hP (ci := 0) (q0 := 0) rfl rfl) rfl hl.1 rfl (Nat.le_of_ble_eq_true rfl) d_LA_law_405 ⟨Nat.le_of_ble_eq_true rfl, Nat.le_of_ble_eq_true rfl⟩ (fun H locs hP hQ hS => ?_)
                              refine lv_aload_n hx hb d_LA_law_408 rfl (lv_at hl 2 rfl) ?_
                              refine lv_aload_n hx hb d_LA_law_409 rfl (lv_at hl 0 rfl) ?_
                              refine lv_iload_n hx hb d_LA_law_410 rfl (lv_at hl 3 rfl) ?_
                              refine lv_iconst (v := (1 : Int32)) hx hb d_LA_law_411 (by decide) ?_
                              refine lv_iadd hx hb d_LA_law_412 ?_
                              refine va_sld hx hb hX hbl hbA hS hi1 d_LA_law_413 ?_
                              refine rl_i (wf := (wM b cI cZ)) (wg := (wC a cI cZ)) (τ := q.2) (As := [.int (xs (nI i + (1 : Int32)).toNatClampNeg)]) (rest := [.int q.1]) (b := b 0) (q := q') (stM_g t) F (c_MO_run l haM (xs (nI i + (1 : Int32)).toNatClampNeg) τ q' e2) (cwV 1 hg gc_LA_73 rfl rfl rfl hs_MO_run ⟨Nat.le_of_ble_eq_true rfl, Nat.le_of_ble_eq_true rfl⟩) hK hTM hQ hP hS hAM (apC q.2) (va_recv hK hQ (ci := 6) (q0 := 0) rfl rfl) rfl hl.1 rfl (Nat.le_of_ble_eq_true rfl) d_LA_law_414 ⟨Nat.le_of_ble_eq_true rfl, Nat.le_of_ble_eq_true rfl⟩ (fun H locs hQ hP hS => ?_)
                              refine lv_icmp_eq (tgt := 481) hx hb d_LA_law_417 (by decide) (fun _ => ?_) (fun c2 => absurd e3 c2)
                              exact back q.2 q'.2 e4 _ _ hP hQ hS ls hl
                            · skip
                              by_cases k12 : (xs (nI i).toNatClampNeg &&& 15) = 12
                              · refine lv_tableIn (off := 379) (tgt := 422) hx hb d_LA_law_43 (by rw [k12]; decide) (by rw [k12]; decide) (by rw [k12]; rfl) (by decide) ?_
                                obtain ⟨q, q', e1, e2, e3, e4⟩ := hout σ τ hRR (xs (nI i + (1 : Int32)).toNatClampNeg)
                                refine lv_aload_n hx hb d_LA_law_422 rfl (lv_at hl 1 rfl) ?_
                                refine lv_aload_n hx hb d_LA_law_423 rfl (lv_at hl 0 rfl) ?_
                                refine lv_iload_n hx hb d_LA_law_424 rfl (lv_at hl 3 rfl) ?_
                                refine lv_iconst (v := (1 : Int32)) hx hb d_LA_law_425 (by decide) ?_
                                refine lv_iadd hx hb d_LA_law_426 ?_
                                refine va_sld hx hb hX hbl hbA hS hi1 d_LA_law_427 ?_
                                refine rl_i (wf := (wC a cI cZ)) (wg := (wM b cI cZ)) (τ := τ) (As := [.int (xs (nI i + (1 : Int32)).toNatClampNeg)]) (rest := []) (b := a 0) (q := q) (stC_g t) F (c_SC_out l haC (xs (nI i + (1 : Int32)).toNatClampNeg) σ q e1) (cwV 1 hg gc_LA_74 rfl rfl rfl hs_SC_out ⟨Nat.le_of_ble_eq_true rfl, Nat.le_of_ble_eq_true rfl⟩) hK hTC hP hQ hS hAC (apM τ) (va_recv hK hP (ci := 0) (q0 := 0) rfl rfl) rfl hl.1 rfl (Nat.le_of_ble_eq_true rfl) d_LA_law_428 ⟨Nat.le_of_ble_eq_true rfl, Nat.le_of_ble_eq_true rfl⟩ (fun H locs hP hQ hS => ?_)
                                refine lv_aload_n hx hb d_LA_law_431 rfl (lv_at hl 2 rfl) ?_
                                refine lv_aload_n hx hb d_LA_law_432 rfl (lv_at hl 0 rfl) ?_
                                refine lv_iload_n hx hb d_LA_law_433 rfl (lv_at hl 3 rfl) ?_
                                refine lv_iconst (v := (1 : Int32)) hx hb d_LA_law_434 (by decide) ?_
                                refine lv_iadd hx hb d_LA_law_435 ?_
                                refine va_sld hx hb hX hbl hbA hS hi1 d_LA_law_436 ?_
                                refine rl_i (wf := (wM b cI cZ)) (wg := (wC a cI cZ)) (τ := q.2) (As := [.int (xs (nI i + (1 : Int32)).toNatClampNeg)]) (rest := [.int q.1]) (b := b 0) (q := q') (stM_g t) F (c_MO_out l haM (xs (nI i + (1 : Int32)).toNatClampNeg) τ q' e2) (cwV 1 hg gc_LA_77 rfl rfl rfl hs_MO_out ⟨Nat.le_of_ble_eq_true rfl, Nat.le_of_ble_eq_true rfl⟩) hK hTM hQ hP hS hAM (apC q.2) (va_recv hK hQ (ci := 6) (q0 := 0) rfl rfl) rfl hl.1 rfl (Nat.le_of_ble_eq_true rfl) d_LA_law_437 ⟨Nat.le_of_ble_eq_true rfl, Nat.le_of_ble_eq_true rfl⟩ (fun H locs hQ hP hS => ?_)
                                refine lv_icmp_eq (tgt := 481) hx hb d_LA_law_440 (by decide) (fun _ => ?_) (fun c2 => absurd e3 c2)
                                exact back q.2 q'.2 e4 _ _ hP hQ hS ls hl
                              · skip
                                by_cases k13 : (xs (nI i).toNatClampNeg &&& 15) = 13
                                · refine lv_tableIn (off := 402) (tgt := 445) hx hb d_LA_law_43 (by rw [k13]; decide) (by rw [k13]; decide) (by rw [k13]; rfl) (by decide) ?_
                                  obtain ⟨q, q', e1, e2, e3, e4⟩ := hsteps σ τ hRR
                                  refine lv_aload_n hx hb d_LA_law_445 rfl (lv_at hl 1 rfl) ?_
                                  refine rl_i (wf := (wC a cI cZ)) (wg := (wM b cI cZ)) (τ := τ) (As := []) (rest := []) (b := a 0) (q := q) (stC_g t) F (c_SC_steps l haC σ q e1) (cwV 0 hg gc_LA_78 rfl rfl rfl hs_SC_steps ⟨Nat.le_of_ble_eq_true rfl, Nat.le_of_ble_eq_true rfl⟩) hK hTC hP hQ hS hAC (apM τ) (va_recv hK hP (ci := 0) (q0 := 0) rfl rfl) rfl hl.1 rfl (Nat.le_of_ble_eq_true rfl) d_LA_law_446 ⟨Nat.le_of_ble_eq_true rfl, Nat.le_of_ble_eq_true rfl⟩ (fun H locs hP hQ hS => ?_)
                                  refine lv_aload_n hx hb d_LA_law_449 rfl (lv_at hl 2 rfl) ?_
                                  refine rl_i (wf := (wM b cI cZ)) (wg := (wC a cI cZ)) (τ := q.2) (As := []) (rest := [.int q.1]) (b := b 0) (q := q') (stM_g t) F (c_MO_steps l haM τ q' e2) (cwV 0 hg gc_LA_81 rfl rfl rfl hs_MO_steps ⟨Nat.le_of_ble_eq_true rfl, Nat.le_of_ble_eq_true rfl⟩) hK hTM hQ hP hS hAM (apC q.2) (va_recv hK hQ (ci := 6) (q0 := 0) rfl rfl) rfl hl.1 rfl (Nat.le_of_ble_eq_true rfl) d_LA_law_450 ⟨Nat.le_of_ble_eq_true rfl, Nat.le_of_ble_eq_true rfl⟩ (fun H locs hQ hP hS => ?_)
                                  refine lv_icmp_eq (tgt := 481) hx hb d_LA_law_453 (by decide) (fun _ => ?_) (fun c2 => absurd e3 c2)
                                  exact back q.2 q'.2 e4 _ _ hP hQ hS ls hl
                                · skip
                                  by_cases k14 : (xs (nI i).toNatClampNeg &&& 15) = 14
                                  · refine lv_tableIn (off := 415) (tgt := 458) hx hb d_LA_law_43 (by rw [k14]; decide) (by rw [k14]; decide) (by rw [k14]; rfl) (by decide) ?_
                                    obtain ⟨q, q', e1, e2, e3, e4⟩ := hcell σ τ hRR (xs (nI i + (1 : Int32)).toNatClampNeg)
                                    refine lv_aload_n hx hb d_LA_law_458 rfl (lv_at hl 1 rfl) ?_
                                    refine lv_aload_n hx hb d_LA_law_459 rfl (lv_at hl 0 rfl) ?_
                                    refine lv_iload_n hx hb d_LA_law_460 rfl (lv_at hl 3 rfl) ?_
                                    refine lv_iconst (v := (1 : Int32)) hx hb d_LA_law_461 (by decide) ?_
                                    refine lv_iadd hx hb d_LA_law_462 ?_
                                    refine va_sld hx hb hX hbl hbA hS hi1 d_LA_law_463 ?_
                                    refine rl_i (wf := (wC a cI cZ)) (wg := (wM b cI cZ)) (τ := τ) (As := [.int (xs (nI i + (1 : Int32)).toNatClampNeg)]) (rest := []) (b := a 0) (q := q) (stC_g t) F (c_SC_cell l haC (xs (nI i + (1 : Int32)).toNatClampNeg) σ q e1) (cwV 1 hg gc_LA_82 rfl rfl rfl hs_SC_cell ⟨Nat.le_of_ble_eq_true rfl, Nat.le_of_ble_eq_true rfl⟩) hK hTC hP hQ hS hAC (apM τ) (va_recv hK hP (ci := 0) (q0 := 0) rfl rfl) rfl hl.1 rfl (Nat.le_of_ble_eq_true rfl) d_LA_law_464 ⟨Nat.le_of_ble_eq_true rfl, Nat.le_of_ble_eq_true rfl⟩ (fun H locs hP hQ hS => ?_)
                                    refine lv_aload_n hx hb d_LA_law_467 rfl (lv_at hl 2 rfl) ?_
                                    refine lv_aload_n hx hb d_LA_law_468 rfl (lv_at hl 0 rfl) ?_
                                    refine lv_iload_n hx hb d_LA_law_469 rfl (lv_at hl 3 rfl) ?_
                                    refine lv_iconst (v := (1 : Int32)) hx hb d_LA_law_470 (by decide) ?_
                                    refine lv_iadd hx hb d_LA_law_471 ?_
                                    refine va_sld hx hb hX hbl hbA hS hi1 d_LA_law_472 ?_
                                    refine rl_i (wf := (wM b cI cZ)) (wg := (wC a cI cZ)) (τ := q.2) (As := [.int (xs (nI i + (1 : Int32)).toNatClampNeg)]) (rest := [.int q.1]) (b := b 0) (q := q') (stM_g t) F (c_MO_cell l haM (xs (nI i + (1 : Int32)).toNatClampNeg) τ q' e2) (cwV 1 hg gc_LA_84 rfl rfl rfl hs_MO_cell ⟨Nat.le_of_ble_eq_true rfl, Nat.le_of_ble_eq_true rfl⟩) hK hTM hQ hP hS hAM (apC q.2) (va_recv hK hQ (ci := 6) (q0 := 0) rfl rfl) rfl hl.1 rfl (Nat.le_of_ble_eq_true rfl) d_LA_law_473 ⟨Nat.le_of_ble_eq_true rfl, Nat.le_of_ble_eq_true rfl⟩ (fun H locs hQ hP hS => ?_)
                                    refine lv_icmp_eq (tgt := 481) hx hb d_LA_law_476 (by decide) (fun _ => ?_) (fun c2 => absurd e3 c2)
                                    exact back q.2 q'.2 e4 _ _ hP hQ hS ls hl
                                  · skip
                                    have n0 := lv_neT (a := 0) k0 (by decide)
                                    have n1 := lv_neT (a := 1) k1 (by decide)
                                    have n2 := lv_neT (a := 2) k2 (by decide)
                                    have n3 := lv_neT (a := 3) k3 (by decide)
                                    have n4 := lv_neT (a := 4) k4 (by decide)
                                    have n5 := lv_neT (a := 5) k5 (by decide)
                                    have n6 := lv_neT (a := 6) k6 (by decide)
                                    have n7 := lv_neT (a := 7) k7 (by decide)
                                    have n8 := lv_neT (a := 8) k8 (by decide)
                                    have n9 := lv_neT (a := 9) k9 (by decide)
                                    have n10 := lv_neT (a := 10) k10 (by decide)
                                    have n11 := lv_neT (a := 11) k11 (by decide)
                                    have n12 := lv_neT (a := 12) k12 (by decide)
                                    have n13 := lv_neT (a := 13) k13 (by decide)
                                    have n14 := lv_neT (a := 14) k14 (by decide)
                                    refine lv_tableOut (tgt := 481) hx hb d_LA_law_43 (by omega) (by decide) ?_
                                    exact back σ τ hRR _ _ hP hQ hS ls hl

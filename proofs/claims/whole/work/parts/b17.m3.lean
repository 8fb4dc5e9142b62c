def yM_goesApart : MethodName := ⟨"CellForgeModel", "goesApart", "(I)Z"⟩
abbrev cM_goesApart : ByteArray := prog_14_method_40_code
theorem dM_goesApart_0 : decode cM_goesApart 0 = .ok (.iload_n 1, 1) := by decide +kernel
theorem dM_goesApart_1 : decode cM_goesApart 1 = .ok (.iconst 2, 1) := by decide +kernel
theorem dM_goesApart_2 : decode cM_goesApart 2 = .ok (.irem, 1) := by decide +kernel
theorem dM_goesApart_3 : decode cM_goesApart 3 = .ok (.ifCond .ne 29, 3) := by decide +kernel
theorem dM_goesApart_6 : decode cM_goesApart 6 = .ok (.iload_n 1, 1) := by decide +kernel
theorem dM_goesApart_7 : decode cM_goesApart 7 = .ok (.iconst 2, 1) := by decide +kernel
theorem dM_goesApart_8 : decode cM_goesApart 8 = .ok (.idiv, 1) := by decide +kernel
theorem dM_goesApart_9 : decode cM_goesApart 9 = .ok (.aload_n 0, 1) := by decide +kernel
theorem dM_goesApart_10 : decode cM_goesApart 10 = .ok (.invokevirtual 371, 3) := by decide +kernel
theorem dM_goesApart_13 : decode cM_goesApart 13 = .ok (.if_icmp .lt 19, 3) := by decide +kernel
theorem dM_goesApart_16 : decode cM_goesApart 16 = .ok (.aload_n 0, 1) := by decide +kernel
theorem dM_goesApart_17 : decode cM_goesApart 17 = .ok (.getfield 106, 3) := by decide +kernel
theorem dM_goesApart_20 : decode cM_goesApart 20 = .ok (.iload_n 1, 1) := by decide +kernel
theorem dM_goesApart_21 : decode cM_goesApart 21 = .ok (.iconst 2, 1) := by decide +kernel
theorem dM_goesApart_22 : decode cM_goesApart 22 = .ok (.idiv, 1) := by decide +kernel
theorem dM_goesApart_23 : decode cM_goesApart 23 = .ok (.iaload, 1) := by decide +kernel
theorem dM_goesApart_24 : decode cM_goesApart 24 = .ok (.iconst 1, 1) := by decide +kernel
theorem dM_goesApart_25 : decode cM_goesApart 25 = .ok (.if_icmp .ne 7, 3) := by decide +kernel
theorem dM_goesApart_28 : decode cM_goesApart 28 = .ok (.iconst 1, 1) := by decide +kernel
theorem dM_goesApart_29 : decode cM_goesApart 29 = .ok (.goto 4, 3) := by decide +kernel
theorem dM_goesApart_32 : decode cM_goesApart 32 = .ok (.iconst 0, 1) := by decide +kernel
theorem dM_goesApart_33 : decode cM_goesApart 33 = .ok (.ireturn, 1) := by decide +kernel
def yM_look : MethodName := ⟨"CellForgeModel", "look", "()V"⟩
abbrev cM_look : ByteArray := prog_14_method_39_code
theorem dM_look_0 : decode cM_look 0 = .ok (.iconst 0, 1) := by decide +kernel
theorem dM_look_1 : decode cM_look 1 = .ok (.istore_n 1, 1) := by decide +kernel
theorem dM_look_2 : decode cM_look 2 = .ok (.iload_n 1, 1) := by decide +kernel
theorem dM_look_3 : decode cM_look 3 = .ok (.sipush 210, 3) := by decide +kernel
theorem dM_look_6 : decode cM_look 6 = .ok (.if_icmp .ge 30, 3) := by decide +kernel
theorem dM_look_9 : decode cM_look 9 = .ok (.aload_n 0, 1) := by decide +kernel
theorem dM_look_10 : decode cM_look 10 = .ok (.getfield 109, 3) := by decide +kernel
theorem dM_look_13 : decode cM_look 13 = .ok (.iload_n 1, 1) := by decide +kernel
theorem dM_look_14 : decode cM_look 14 = .ok (.iconst 0, 1) := by decide +kernel
theorem dM_look_15 : decode cM_look 15 = .ok (.bastore, 1) := by decide +kernel
theorem dM_look_16 : decode cM_look 16 = .ok (.aload_n 0, 1) := by decide +kernel
theorem dM_look_17 : decode cM_look 17 = .ok (.getfield 106, 3) := by decide +kernel
theorem dM_look_20 : decode cM_look 20 = .ok (.iload_n 1, 1) := by decide +kernel
theorem dM_look_21 : decode cM_look 21 = .ok (.iconst 0, 1) := by decide +kernel
theorem dM_look_22 : decode cM_look 22 = .ok (.iastore, 1) := by decide +kernel
theorem dM_look_23 : decode cM_look 23 = .ok (.aload_n 0, 1) := by decide +kernel
theorem dM_look_24 : decode cM_look 24 = .ok (.getfield 112, 3) := by decide +kernel
theorem dM_look_27 : decode cM_look 27 = .ok (.iload_n 1, 1) := by decide +kernel
theorem dM_look_28 : decode cM_look 28 = .ok (.iconst 0, 1) := by decide +kernel
theorem dM_look_29 : decode cM_look 29 = .ok (.bastore, 1) := by decide +kernel
theorem dM_look_30 : decode cM_look 30 = .ok (.iinc 1 1, 3) := by decide +kernel
theorem dM_look_33 : decode cM_look 33 = .ok (.goto (-31), 3) := by decide +kernel
theorem dM_look_36 : decode cM_look 36 = .ok (.iconst 0, 1) := by decide +kernel
theorem dM_look_37 : decode cM_look 37 = .ok (.istore_n 1, 1) := by decide +kernel
theorem dM_look_38 : decode cM_look 38 = .ok (.iload_n 1, 1) := by decide +kernel
theorem dM_look_39 : decode cM_look 39 = .ok (.aload_n 0, 1) := by decide +kernel
theorem dM_look_40 : decode cM_look 40 = .ok (.getfield 337, 3) := by decide +kernel
theorem dM_look_43 : decode cM_look 43 = .ok (.if_icmp .ge 40, 3) := by decide +kernel
theorem dM_look_46 : decode cM_look 46 = .ok (.aload_n 0, 1) := by decide +kernel
theorem dM_look_47 : decode cM_look 47 = .ok (.getfield 109, 3) := by decide +kernel
theorem dM_look_50 : decode cM_look 50 = .ok (.aload_n 0, 1) := by decide +kernel
theorem dM_look_51 : decode cM_look 51 = .ok (.getfield 103, 3) := by decide +kernel
theorem dM_look_54 : decode cM_look 54 = .ok (.iload_n 1, 1) := by decide +kernel
theorem dM_look_55 : decode cM_look 55 = .ok (.iaload, 1) := by decide +kernel
theorem dM_look_56 : decode cM_look 56 = .ok (.iconst 2, 1) := by decide +kernel
theorem dM_look_57 : decode cM_look 57 = .ok (.idiv, 1) := by decide +kernel
theorem dM_look_58 : decode cM_look 58 = .ok (.iconst 1, 1) := by decide +kernel
theorem dM_look_59 : decode cM_look 59 = .ok (.bastore, 1) := by decide +kernel
theorem dM_look_60 : decode cM_look 60 = .ok (.aload_n 0, 1) := by decide +kernel
theorem dM_look_61 : decode cM_look 61 = .ok (.getfield 106, 3) := by decide +kernel
theorem dM_look_64 : decode cM_look 64 = .ok (.aload_n 0, 1) := by decide +kernel
theorem dM_look_65 : decode cM_look 65 = .ok (.getfield 103, 3) := by decide +kernel
theorem dM_look_68 : decode cM_look 68 = .ok (.iload_n 1, 1) := by decide +kernel
theorem dM_look_69 : decode cM_look 69 = .ok (.iaload, 1) := by decide +kernel
theorem dM_look_70 : decode cM_look 70 = .ok (.iconst 2, 1) := by decide +kernel
theorem dM_look_71 : decode cM_look 71 = .ok (.idiv, 1) := by decide +kernel
theorem dM_look_72 : decode cM_look 72 = .ok (.dup2, 1) := by decide +kernel
theorem dM_look_73 : decode cM_look 73 = .ok (.iaload, 1) := by decide +kernel
theorem dM_look_74 : decode cM_look 74 = .ok (.iconst 1, 1) := by decide +kernel
theorem dM_look_75 : decode cM_look 75 = .ok (.iadd, 1) := by decide +kernel
theorem dM_look_76 : decode cM_look 76 = .ok (.iastore, 1) := by decide +kernel
theorem dM_look_77 : decode cM_look 77 = .ok (.iinc 1 1, 3) := by decide +kernel
theorem dM_look_80 : decode cM_look 80 = .ok (.goto (-42), 3) := by decide +kernel
theorem dM_look_83 : decode cM_look 83 = .ok (.aload_n 0, 1) := by decide +kernel
theorem dM_look_84 : decode cM_look 84 = .ok (.getfield 334, 3) := by decide +kernel
theorem dM_look_87 : decode cM_look 87 = .ok (.iconst 1, 1) := by decide +kernel
theorem dM_look_88 : decode cM_look 88 = .ok (.isub, 1) := by decide +kernel
theorem dM_look_89 : decode cM_look 89 = .ok (.istore_n 1, 1) := by decide +kernel
theorem dM_look_90 : decode cM_look 90 = .ok (.iload_n 1, 1) := by decide +kernel
theorem dM_look_91 : decode cM_look 91 = .ok (.ifCond .lt 85, 3) := by decide +kernel
theorem dM_look_94 : decode cM_look 94 = .ok (.aload_n 0, 1) := by decide +kernel
theorem dM_look_95 : decode cM_look 95 = .ok (.getfield 109, 3) := by decide +kernel
theorem dM_look_98 : decode cM_look 98 = .ok (.aload_n 0, 1) := by decide +kernel
theorem dM_look_99 : decode cM_look 99 = .ok (.invokevirtual 371, 3) := by decide +kernel
theorem dM_look_102 : decode cM_look 102 = .ok (.iload_n 1, 1) := by decide +kernel
theorem dM_look_103 : decode cM_look 103 = .ok (.iadd, 1) := by decide +kernel
theorem dM_look_104 : decode cM_look 104 = .ok (.baload, 1) := by decide +kernel
theorem dM_look_105 : decode cM_look 105 = .ok (.ifCond .eq 65, 3) := by decide +kernel
theorem dM_look_108 : decode cM_look 108 = .ok (.aload_n 0, 1) := by decide +kernel
theorem dM_look_109 : decode cM_look 109 = .ok (.getfield 109, 3) := by decide +kernel
theorem dM_look_112 : decode cM_look 112 = .ok (.aload_n 0, 1) := by decide +kernel
theorem dM_look_113 : decode cM_look 113 = .ok (.getfield 94, 3) := by decide +kernel
theorem dM_look_116 : decode cM_look 116 = .ok (.iload_n 1, 1) := by decide +kernel
theorem dM_look_117 : decode cM_look 117 = .ok (.iaload, 1) := by decide +kernel
theorem dM_look_118 : decode cM_look 118 = .ok (.iconst 2, 1) := by decide +kernel
theorem dM_look_119 : decode cM_look 119 = .ok (.idiv, 1) := by decide +kernel
theorem dM_look_120 : decode cM_look 120 = .ok (.iconst 1, 1) := by decide +kernel
theorem dM_look_121 : decode cM_look 121 = .ok (.bastore, 1) := by decide +kernel
theorem dM_look_122 : decode cM_look 122 = .ok (.aload_n 0, 1) := by decide +kernel
theorem dM_look_123 : decode cM_look 123 = .ok (.getfield 109, 3) := by decide +kernel
theorem dM_look_126 : decode cM_look 126 = .ok (.aload_n 0, 1) := by decide +kernel
theorem dM_look_127 : decode cM_look 127 = .ok (.getfield 97, 3) := by decide +kernel
theorem dM_look_130 : decode cM_look 130 = .ok (.iload_n 1, 1) := by decide +kernel
theorem dM_look_131 : decode cM_look 131 = .ok (.iaload, 1) := by decide +kernel
theorem dM_look_132 : decode cM_look 132 = .ok (.iconst 2, 1) := by decide +kernel
theorem dM_look_133 : decode cM_look 133 = .ok (.idiv, 1) := by decide +kernel
theorem dM_look_134 : decode cM_look 134 = .ok (.iconst 1, 1) := by decide +kernel
theorem dM_look_135 : decode cM_look 135 = .ok (.bastore, 1) := by decide +kernel
theorem dM_look_136 : decode cM_look 136 = .ok (.aload_n 0, 1) := by decide +kernel
theorem dM_look_137 : decode cM_look 137 = .ok (.getfield 106, 3) := by decide +kernel
theorem dM_look_140 : decode cM_look 140 = .ok (.aload_n 0, 1) := by decide +kernel
theorem dM_look_141 : decode cM_look 141 = .ok (.getfield 94, 3) := by decide +kernel
theorem dM_look_144 : decode cM_look 144 = .ok (.iload_n 1, 1) := by decide +kernel
theorem dM_look_145 : decode cM_look 145 = .ok (.iaload, 1) := by decide +kernel
theorem dM_look_146 : decode cM_look 146 = .ok (.iconst 2, 1) := by decide +kernel
theorem dM_look_147 : decode cM_look 147 = .ok (.idiv, 1) := by decide +kernel
theorem dM_look_148 : decode cM_look 148 = .ok (.dup2, 1) := by decide +kernel
theorem dM_look_149 : decode cM_look 149 = .ok (.iaload, 1) := by decide +kernel
theorem dM_look_150 : decode cM_look 150 = .ok (.iconst 1, 1) := by decide +kernel
theorem dM_look_151 : decode cM_look 151 = .ok (.iadd, 1) := by decide +kernel
theorem dM_look_152 : decode cM_look 152 = .ok (.iastore, 1) := by decide +kernel
theorem dM_look_153 : decode cM_look 153 = .ok (.aload_n 0, 1) := by decide +kernel
theorem dM_look_154 : decode cM_look 154 = .ok (.getfield 106, 3) := by decide +kernel
theorem dM_look_157 : decode cM_look 157 = .ok (.aload_n 0, 1) := by decide +kernel
theorem dM_look_158 : decode cM_look 158 = .ok (.getfield 97, 3) := by decide +kernel
theorem dM_look_161 : decode cM_look 161 = .ok (.iload_n 1, 1) := by decide +kernel
theorem dM_look_162 : decode cM_look 162 = .ok (.iaload, 1) := by decide +kernel
theorem dM_look_163 : decode cM_look 163 = .ok (.iconst 2, 1) := by decide +kernel
theorem dM_look_164 : decode cM_look 164 = .ok (.idiv, 1) := by decide +kernel
theorem dM_look_165 : decode cM_look 165 = .ok (.dup2, 1) := by decide +kernel
theorem dM_look_166 : decode cM_look 166 = .ok (.iaload, 1) := by decide +kernel
theorem dM_look_167 : decode cM_look 167 = .ok (.iconst 1, 1) := by decide +kernel
theorem dM_look_168 : decode cM_look 168 = .ok (.iadd, 1) := by decide +kernel
theorem dM_look_169 : decode cM_look 169 = .ok (.iastore, 1) := by decide +kernel
theorem dM_look_170 : decode cM_look 170 = .ok (.iinc 1 (-1), 3) := by decide +kernel
theorem dM_look_173 : decode cM_look 173 = .ok (.goto (-83), 3) := by decide +kernel
theorem dM_look_176 : decode cM_look 176 = .ok (.iconst 0, 1) := by decide +kernel
theorem dM_look_177 : decode cM_look 177 = .ok (.istore_n 1, 1) := by decide +kernel
theorem dM_look_178 : decode cM_look 178 = .ok (.iload_n 1, 1) := by decide +kernel
theorem dM_look_179 : decode cM_look 179 = .ok (.aload_n 0, 1) := by decide +kernel
theorem dM_look_180 : decode cM_look 180 = .ok (.getfield 334, 3) := by decide +kernel
theorem dM_look_183 : decode cM_look 183 = .ok (.if_icmp .ge 117, 3) := by decide +kernel
theorem dM_look_186 : decode cM_look 186 = .ok (.aload_n 0, 1) := by decide +kernel
theorem dM_look_187 : decode cM_look 187 = .ok (.getfield 109, 3) := by decide +kernel
theorem dM_look_190 : decode cM_look 190 = .ok (.aload_n 0, 1) := by decide +kernel
theorem dM_look_191 : decode cM_look 191 = .ok (.invokevirtual 371, 3) := by decide +kernel
theorem dM_look_194 : decode cM_look 194 = .ok (.iload_n 1, 1) := by decide +kernel
theorem dM_look_195 : decode cM_look 195 = .ok (.iadd, 1) := by decide +kernel
theorem dM_look_196 : decode cM_look 196 = .ok (.baload, 1) := by decide +kernel
theorem dM_look_197 : decode cM_look 197 = .ok (.ifCond .eq 97, 3) := by decide +kernel
theorem dM_look_200 : decode cM_look 200 = .ok (.aload_n 0, 1) := by decide +kernel
theorem dM_look_201 : decode cM_look 201 = .ok (.getfield 112, 3) := by decide +kernel
theorem dM_look_204 : decode cM_look 204 = .ok (.aload_n 0, 1) := by decide +kernel
theorem dM_look_205 : decode cM_look 205 = .ok (.getfield 94, 3) := by decide +kernel
theorem dM_look_208 : decode cM_look 208 = .ok (.iload_n 1, 1) := by decide +kernel
theorem dM_look_209 : decode cM_look 209 = .ok (.iaload, 1) := by decide +kernel
theorem dM_look_210 : decode cM_look 210 = .ok (.iconst 2, 1) := by decide +kernel
theorem dM_look_211 : decode cM_look 211 = .ok (.idiv, 1) := by decide +kernel
theorem dM_look_212 : decode cM_look 212 = .ok (.aload_n 0, 1) := by decide +kernel
theorem dM_look_213 : decode cM_look 213 = .ok (.getfield 112, 3) := by decide +kernel
theorem dM_look_216 : decode cM_look 216 = .ok (.aload_n 0, 1) := by decide +kernel
theorem dM_look_217 : decode cM_look 217 = .ok (.getfield 94, 3) := by decide +kernel
theorem dM_look_220 : decode cM_look 220 = .ok (.iload_n 1, 1) := by decide +kernel
theorem dM_look_221 : decode cM_look 221 = .ok (.iaload, 1) := by decide +kernel
theorem dM_look_222 : decode cM_look 222 = .ok (.iconst 2, 1) := by decide +kernel
theorem dM_look_223 : decode cM_look 223 = .ok (.idiv, 1) := by decide +kernel
theorem dM_look_224 : decode cM_look 224 = .ok (.baload, 1) := by decide +kernel
theorem dM_look_225 : decode cM_look 225 = .ok (.ifCond .ne 16, 3) := by decide +kernel
theorem dM_look_228 : decode cM_look 228 = .ok (.aload_n 0, 1) := by decide +kernel
theorem dM_look_229 : decode cM_look 229 = .ok (.aload_n 0, 1) := by decide +kernel
theorem dM_look_230 : decode cM_look 230 = .ok (.getfield 94, 3) := by decide +kernel
theorem dM_look_233 : decode cM_look 233 = .ok (.iload_n 1, 1) := by decide +kernel
theorem dM_look_234 : decode cM_look 234 = .ok (.iaload, 1) := by decide +kernel
theorem dM_look_235 : decode cM_look 235 = .ok (.invokevirtual 380, 3) := by decide +kernel
theorem dM_look_238 : decode cM_look 238 = .ok (.ifCond .eq 7, 3) := by decide +kernel
theorem dM_look_241 : decode cM_look 241 = .ok (.iconst 1, 1) := by decide +kernel
theorem dM_look_242 : decode cM_look 242 = .ok (.goto 4, 3) := by decide +kernel
theorem dM_look_245 : decode cM_look 245 = .ok (.iconst 0, 1) := by decide +kernel
theorem dM_look_246 : decode cM_look 246 = .ok (.bastore, 1) := by decide +kernel
theorem dM_look_247 : decode cM_look 247 = .ok (.aload_n 0, 1) := by decide +kernel
theorem dM_look_248 : decode cM_look 248 = .ok (.getfield 112, 3) := by decide +kernel
theorem dM_look_251 : decode cM_look 251 = .ok (.aload_n 0, 1) := by decide +kernel
theorem dM_look_252 : decode cM_look 252 = .ok (.getfield 97, 3) := by decide +kernel
theorem dM_look_255 : decode cM_look 255 = .ok (.iload_n 1, 1) := by decide +kernel
theorem dM_look_256 : decode cM_look 256 = .ok (.iaload, 1) := by decide +kernel
theorem dM_look_257 : decode cM_look 257 = .ok (.iconst 2, 1) := by decide +kernel
theorem dM_look_258 : decode cM_look 258 = .ok (.idiv, 1) := by decide +kernel
theorem dM_look_259 : decode cM_look 259 = .ok (.aload_n 0, 1) := by decide +kernel
theorem dM_look_260 : decode cM_look 260 = .ok (.getfield 112, 3) := by decide +kernel
theorem dM_look_263 : decode cM_look 263 = .ok (.aload_n 0, 1) := by decide +kernel
theorem dM_look_264 : decode cM_look 264 = .ok (.getfield 97, 3) := by decide +kernel
theorem dM_look_267 : decode cM_look 267 = .ok (.iload_n 1, 1) := by decide +kernel
theorem dM_look_268 : decode cM_look 268 = .ok (.iaload, 1) := by decide +kernel
theorem dM_look_269 : decode cM_look 269 = .ok (.iconst 2, 1) := by decide +kernel
theorem dM_look_270 : decode cM_look 270 = .ok (.idiv, 1) := by decide +kernel
theorem dM_look_271 : decode cM_look 271 = .ok (.baload, 1) := by decide +kernel
theorem dM_look_272 : decode cM_look 272 = .ok (.ifCond .ne 16, 3) := by decide +kernel
theorem dM_look_275 : decode cM_look 275 = .ok (.aload_n 0, 1) := by decide +kernel
theorem dM_look_276 : decode cM_look 276 = .ok (.aload_n 0, 1) := by decide +kernel
theorem dM_look_277 : decode cM_look 277 = .ok (.getfield 97, 3) := by decide +kernel
theorem dM_look_280 : decode cM_look 280 = .ok (.iload_n 1, 1) := by decide +kernel
theorem dM_look_281 : decode cM_look 281 = .ok (.iaload, 1) := by decide +kernel
theorem dM_look_282 : decode cM_look 282 = .ok (.invokevirtual 380, 3) := by decide +kernel
theorem dM_look_285 : decode cM_look 285 = .ok (.ifCond .eq 7, 3) := by decide +kernel
theorem dM_look_288 : decode cM_look 288 = .ok (.iconst 1, 1) := by decide +kernel
theorem dM_look_289 : decode cM_look 289 = .ok (.goto 4, 3) := by decide +kernel
theorem dM_look_292 : decode cM_look 292 = .ok (.iconst 0, 1) := by decide +kernel
theorem dM_look_293 : decode cM_look 293 = .ok (.bastore, 1) := by decide +kernel
theorem dM_look_294 : decode cM_look 294 = .ok (.iinc 1 1, 3) := by decide +kernel
theorem dM_look_297 : decode cM_look 297 = .ok (.goto (-119), 3) := by decide +kernel
theorem dM_look_300 : decode cM_look 300 = .ok (.return_, 1) := by decide +kernel
theorem wv_2436 : Cond.methodLink "CellForgeModel" 380 (⟨"CellForgeModel", "goesApart", "(I)Z"⟩ : MethodName) ∈ cfB := cf_in 2436 (by decide +kernel) rfl
theorem wv_2439 : Cond.code (⟨"CellForgeModel", "goesApart", "(I)Z"⟩ : MethodName) prog_14_method_40_code 2 (Option.some Jvm.ClassFile.FieldType.boolean) ∈ cfB := cf_in 2439 (by decide +kernel) rfl
theorem wv_2438 : Cond.instanceMethod (⟨"CellForgeModel", "goesApart", "(I)Z"⟩ : MethodName) ∈ cfB := cf_in 2438 (by decide +kernel) rfl
theorem wv_91 : Cond.selects "CellForgeModel" (⟨"CellForgeModel", "goesApart", "(I)Z"⟩ : MethodName) (⟨"CellForgeModel", "goesApart", "(I)Z"⟩ : MethodName) ∈ cfB := cf_in 91 (by decide +kernel) rfl
def yM_leaves : MethodName := ⟨"CellForgeModel", "leaves", "(I)V"⟩
abbrev cM_leaves : ByteArray := prog_14_method_41_code
theorem dM_leaves_0 : decode cM_leaves 0 = .ok (.aload_n 0, 1) := by decide +kernel
theorem dM_leaves_1 : decode cM_leaves 1 = .ok (.iconst 0, 1) := by decide +kernel
theorem dM_leaves_2 : decode cM_leaves 2 = .ok (.putfield 383, 3) := by decide +kernel
theorem dM_leaves_5 : decode cM_leaves 5 = .ok (.aload_n 0, 1) := by decide +kernel
theorem dM_leaves_6 : decode cM_leaves 6 = .ok (.iconst 2, 1) := by decide +kernel
theorem dM_leaves_7 : decode cM_leaves 7 = .ok (.putfield 386, 3) := by decide +kernel
theorem dM_leaves_10 : decode cM_leaves 10 = .ok (.aload_n 0, 1) := by decide +kernel
theorem dM_leaves_11 : decode cM_leaves 11 = .ok (.getfield 121, 3) := by decide +kernel
theorem dM_leaves_14 : decode cM_leaves 14 = .ok (.iconst 0, 1) := by decide +kernel
theorem dM_leaves_15 : decode cM_leaves 15 = .ok (.aload_n 0, 1) := by decide +kernel
theorem dM_leaves_16 : decode cM_leaves 16 = .ok (.getfield 97, 3) := by decide +kernel
theorem dM_leaves_19 : decode cM_leaves 19 = .ok (.iload_n 1, 1) := by decide +kernel
theorem dM_leaves_20 : decode cM_leaves 20 = .ok (.iaload, 1) := by decide +kernel
theorem dM_leaves_21 : decode cM_leaves 21 = .ok (.iastore, 1) := by decide +kernel
theorem dM_leaves_22 : decode cM_leaves 22 = .ok (.aload_n 0, 1) := by decide +kernel
theorem dM_leaves_23 : decode cM_leaves 23 = .ok (.getfield 121, 3) := by decide +kernel
theorem dM_leaves_26 : decode cM_leaves 26 = .ok (.iconst 1, 1) := by decide +kernel
theorem dM_leaves_27 : decode cM_leaves 27 = .ok (.aload_n 0, 1) := by decide +kernel
theorem dM_leaves_28 : decode cM_leaves 28 = .ok (.getfield 94, 3) := by decide +kernel
theorem dM_leaves_31 : decode cM_leaves 31 = .ok (.iload_n 1, 1) := by decide +kernel
theorem dM_leaves_32 : decode cM_leaves 32 = .ok (.iaload, 1) := by decide +kernel
theorem dM_leaves_33 : decode cM_leaves 33 = .ok (.iastore, 1) := by decide +kernel
theorem dM_leaves_34 : decode cM_leaves 34 = .ok (.aload_n 0, 1) := by decide +kernel
theorem dM_leaves_35 : decode cM_leaves 35 = .ok (.getfield 386, 3) := by decide +kernel
theorem dM_leaves_38 : decode cM_leaves 38 = .ok (.ifCond .le 119, 3) := by decide +kernel
theorem dM_leaves_41 : decode cM_leaves 41 = .ok (.aload_n 0, 1) := by decide +kernel
theorem dM_leaves_42 : decode cM_leaves 42 = .ok (.dup, 1) := by decide +kernel
theorem dM_leaves_43 : decode cM_leaves 43 = .ok (.getfield 386, 3) := by decide +kernel
theorem dM_leaves_46 : decode cM_leaves 46 = .ok (.iconst 1, 1) := by decide +kernel
theorem dM_leaves_47 : decode cM_leaves 47 = .ok (.isub, 1) := by decide +kernel
theorem dM_leaves_48 : decode cM_leaves 48 = .ok (.putfield 386, 3) := by decide +kernel
theorem dM_leaves_51 : decode cM_leaves 51 = .ok (.aload_n 0, 1) := by decide +kernel
theorem dM_leaves_52 : decode cM_leaves 52 = .ok (.getfield 121, 3) := by decide +kernel
theorem dM_leaves_55 : decode cM_leaves 55 = .ok (.aload_n 0, 1) := by decide +kernel
theorem dM_leaves_56 : decode cM_leaves 56 = .ok (.getfield 386, 3) := by decide +kernel
theorem dM_leaves_59 : decode cM_leaves 59 = .ok (.iaload, 1) := by decide +kernel
theorem dM_leaves_60 : decode cM_leaves 60 = .ok (.istore_n 2, 1) := by decide +kernel
theorem dM_leaves_61 : decode cM_leaves 61 = .ok (.aload_n 0, 1) := by decide +kernel
theorem dM_leaves_62 : decode cM_leaves 62 = .ok (.iload_n 2, 1) := by decide +kernel
theorem dM_leaves_63 : decode cM_leaves 63 = .ok (.invokevirtual 380, 3) := by decide +kernel
theorem dM_leaves_66 : decode cM_leaves 66 = .ok (.ifCond .eq 57, 3) := by decide +kernel
theorem dM_leaves_69 : decode cM_leaves 69 = .ok (.iload_n 2, 1) := by decide +kernel
theorem dM_leaves_70 : decode cM_leaves 70 = .ok (.iconst 2, 1) := by decide +kernel
theorem dM_leaves_71 : decode cM_leaves 71 = .ok (.idiv, 1) := by decide +kernel
theorem dM_leaves_72 : decode cM_leaves 72 = .ok (.aload_n 0, 1) := by decide +kernel
theorem dM_leaves_73 : decode cM_leaves 73 = .ok (.invokevirtual 371, 3) := by decide +kernel
theorem dM_leaves_76 : decode cM_leaves 76 = .ok (.isub, 1) := by decide +kernel
theorem dM_leaves_77 : decode cM_leaves 77 = .ok (.istore_n 3, 1) := by decide +kernel
theorem dM_leaves_78 : decode cM_leaves 78 = .ok (.aload_n 0, 1) := by decide +kernel
theorem dM_leaves_79 : decode cM_leaves 79 = .ok (.getfield 121, 3) := by decide +kernel
theorem dM_leaves_82 : decode cM_leaves 82 = .ok (.aload_n 0, 1) := by decide +kernel
theorem dM_leaves_83 : decode cM_leaves 83 = .ok (.getfield 386, 3) := by decide +kernel
theorem dM_leaves_86 : decode cM_leaves 86 = .ok (.aload_n 0, 1) := by decide +kernel
theorem dM_leaves_87 : decode cM_leaves 87 = .ok (.getfield 97, 3) := by decide +kernel
theorem dM_leaves_90 : decode cM_leaves 90 = .ok (.iload_n 3, 1) := by decide +kernel
theorem dM_leaves_91 : decode cM_leaves 91 = .ok (.iaload, 1) := by decide +kernel
theorem dM_leaves_92 : decode cM_leaves 92 = .ok (.iastore, 1) := by decide +kernel
theorem dM_leaves_93 : decode cM_leaves 93 = .ok (.aload_n 0, 1) := by decide +kernel
theorem dM_leaves_94 : decode cM_leaves 94 = .ok (.getfield 121, 3) := by decide +kernel
theorem dM_leaves_97 : decode cM_leaves 97 = .ok (.aload_n 0, 1) := by decide +kernel
theorem dM_leaves_98 : decode cM_leaves 98 = .ok (.getfield 386, 3) := by decide +kernel
theorem dM_leaves_101 : decode cM_leaves 101 = .ok (.iconst 1, 1) := by decide +kernel
theorem dM_leaves_102 : decode cM_leaves 102 = .ok (.iadd, 1) := by decide +kernel
theorem dM_leaves_103 : decode cM_leaves 103 = .ok (.aload_n 0, 1) := by decide +kernel
theorem dM_leaves_104 : decode cM_leaves 104 = .ok (.getfield 94, 3) := by decide +kernel
theorem dM_leaves_107 : decode cM_leaves 107 = .ok (.iload_n 3, 1) := by decide +kernel
theorem dM_leaves_108 : decode cM_leaves 108 = .ok (.iaload, 1) := by decide +kernel
theorem dM_leaves_109 : decode cM_leaves 109 = .ok (.iastore, 1) := by decide +kernel
theorem dM_leaves_110 : decode cM_leaves 110 = .ok (.aload_n 0, 1) := by decide +kernel
theorem dM_leaves_111 : decode cM_leaves 111 = .ok (.aload_n 0, 1) := by decide +kernel
theorem dM_leaves_112 : decode cM_leaves 112 = .ok (.getfield 386, 3) := by decide +kernel
theorem dM_leaves_115 : decode cM_leaves 115 = .ok (.iconst 2, 1) := by decide +kernel
theorem dM_leaves_116 : decode cM_leaves 116 = .ok (.iadd, 1) := by decide +kernel
theorem dM_leaves_117 : decode cM_leaves 117 = .ok (.putfield 386, 3) := by decide +kernel
theorem dM_leaves_120 : decode cM_leaves 120 = .ok (.goto 34, 3) := by decide +kernel
theorem dM_leaves_123 : decode cM_leaves 123 = .ok (.aload_n 0, 1) := by decide +kernel
theorem dM_leaves_124 : decode cM_leaves 124 = .ok (.getfield 118, 3) := by decide +kernel
theorem dM_leaves_127 : decode cM_leaves 127 = .ok (.aload_n 0, 1) := by decide +kernel
theorem dM_leaves_128 : decode cM_leaves 128 = .ok (.getfield 383, 3) := by decide +kernel
theorem dM_leaves_131 : decode cM_leaves 131 = .ok (.aload_n 0, 1) := by decide +kernel
theorem dM_leaves_132 : decode cM_leaves 132 = .ok (.getfield 115, 3) := by decide +kernel
theorem dM_leaves_135 : decode cM_leaves 135 = .ok (.iload_n 2, 1) := by decide +kernel
theorem dM_leaves_136 : decode cM_leaves 136 = .ok (.iconst 2, 1) := by decide +kernel
theorem dM_leaves_137 : decode cM_leaves 137 = .ok (.idiv, 1) := by decide +kernel
theorem dM_leaves_138 : decode cM_leaves 138 = .ok (.iaload, 1) := by decide +kernel
theorem dM_leaves_139 : decode cM_leaves 139 = .ok (.iload_n 2, 1) := by decide +kernel
theorem dM_leaves_140 : decode cM_leaves 140 = .ok (.iconst 1, 1) := by decide +kernel
theorem dM_leaves_141 : decode cM_leaves 141 = .ok (.iand, 1) := by decide +kernel
theorem dM_leaves_142 : decode cM_leaves 142 = .ok (.ixor, 1) := by decide +kernel
theorem dM_leaves_143 : decode cM_leaves 143 = .ok (.iastore, 1) := by decide +kernel
theorem dM_leaves_144 : decode cM_leaves 144 = .ok (.aload_n 0, 1) := by decide +kernel
theorem dM_leaves_145 : decode cM_leaves 145 = .ok (.dup, 1) := by decide +kernel
theorem dM_leaves_146 : decode cM_leaves 146 = .ok (.getfield 383, 3) := by decide +kernel
theorem dM_leaves_149 : decode cM_leaves 149 = .ok (.iconst 1, 1) := by decide +kernel
theorem dM_leaves_150 : decode cM_leaves 150 = .ok (.iadd, 1) := by decide +kernel
theorem dM_leaves_151 : decode cM_leaves 151 = .ok (.putfield 383, 3) := by decide +kernel
theorem dM_leaves_154 : decode cM_leaves 154 = .ok (.goto (-120), 3) := by decide +kernel
theorem dM_leaves_157 : decode cM_leaves 157 = .ok (.return_, 1) := by decide +kernel
theorem wv_2036 : Cond.fieldLink "CellForgeModel" 386 "CellForgeModel" "heap" "I" ∈ cfB := cf_in 2036 (by decide +kernel) rfl
theorem wv_2034 : Cond.fieldLink "CellForgeModel" 383 "CellForgeModel" "rowSize" "I" ∈ cfB := cf_in 2034 (by decide +kernel) rfl
def yM_takeLeast : MethodName := ⟨"CellForgeModel", "takeLeast", "()I"⟩
abbrev cM_takeLeast : ByteArray := prog_14_method_42_code
theorem dM_takeLeast_0 : decode cM_takeLeast 0 = .ok (.iconst 0, 1) := by decide +kernel
theorem dM_takeLeast_1 : decode cM_takeLeast 1 = .ok (.istore_n 1, 1) := by decide +kernel
theorem dM_takeLeast_2 : decode cM_takeLeast 2 = .ok (.iconst 1, 1) := by decide +kernel
theorem dM_takeLeast_3 : decode cM_takeLeast 3 = .ok (.istore_n 2, 1) := by decide +kernel
theorem dM_takeLeast_4 : decode cM_takeLeast 4 = .ok (.iload_n 2, 1) := by decide +kernel
theorem dM_takeLeast_5 : decode cM_takeLeast 5 = .ok (.aload_n 0, 1) := by decide +kernel
theorem dM_takeLeast_6 : decode cM_takeLeast 6 = .ok (.getfield 383, 3) := by decide +kernel
theorem dM_takeLeast_9 : decode cM_takeLeast 9 = .ok (.if_icmp .ge 44, 3) := by decide +kernel
theorem dM_takeLeast_12 : decode cM_takeLeast 12 = .ok (.aload_n 0, 1) := by decide +kernel
theorem dM_takeLeast_13 : decode cM_takeLeast 13 = .ok (.getfield 82, 3) := by decide +kernel
theorem dM_takeLeast_16 : decode cM_takeLeast 16 = .ok (.aload_n 0, 1) := by decide +kernel
theorem dM_takeLeast_17 : decode cM_takeLeast 17 = .ok (.getfield 118, 3) := by decide +kernel
theorem dM_takeLeast_20 : decode cM_takeLeast 20 = .ok (.iload_n 2, 1) := by decide +kernel
theorem dM_takeLeast_21 : decode cM_takeLeast 21 = .ok (.iaload, 1) := by decide +kernel
theorem dM_takeLeast_22 : decode cM_takeLeast 22 = .ok (.iconst 2, 1) := by decide +kernel
theorem dM_takeLeast_23 : decode cM_takeLeast 23 = .ok (.idiv, 1) := by decide +kernel
theorem dM_takeLeast_24 : decode cM_takeLeast 24 = .ok (.iaload, 1) := by decide +kernel
theorem dM_takeLeast_25 : decode cM_takeLeast 25 = .ok (.aload_n 0, 1) := by decide +kernel
theorem dM_takeLeast_26 : decode cM_takeLeast 26 = .ok (.getfield 82, 3) := by decide +kernel
theorem dM_takeLeast_29 : decode cM_takeLeast 29 = .ok (.aload_n 0, 1) := by decide +kernel
theorem dM_takeLeast_30 : decode cM_takeLeast 30 = .ok (.getfield 118, 3) := by decide +kernel
theorem dM_takeLeast_33 : decode cM_takeLeast 33 = .ok (.iload_n 1, 1) := by decide +kernel
theorem dM_takeLeast_34 : decode cM_takeLeast 34 = .ok (.iaload, 1) := by decide +kernel
theorem dM_takeLeast_35 : decode cM_takeLeast 35 = .ok (.iconst 2, 1) := by decide +kernel
theorem dM_takeLeast_36 : decode cM_takeLeast 36 = .ok (.idiv, 1) := by decide +kernel
theorem dM_takeLeast_37 : decode cM_takeLeast 37 = .ok (.iaload, 1) := by decide +kernel
theorem dM_takeLeast_38 : decode cM_takeLeast 38 = .ok (.if_icmp .ge 7, 3) := by decide +kernel
theorem dM_takeLeast_41 : decode cM_takeLeast 41 = .ok (.iload_n 2, 1) := by decide +kernel
theorem dM_takeLeast_42 : decode cM_takeLeast 42 = .ok (.goto 4, 3) := by decide +kernel
theorem dM_takeLeast_45 : decode cM_takeLeast 45 = .ok (.iload_n 1, 1) := by decide +kernel
theorem dM_takeLeast_46 : decode cM_takeLeast 46 = .ok (.istore_n 1, 1) := by decide +kernel
theorem dM_takeLeast_47 : decode cM_takeLeast 47 = .ok (.iinc 2 1, 3) := by decide +kernel
theorem dM_takeLeast_50 : decode cM_takeLeast 50 = .ok (.goto (-46), 3) := by decide +kernel
theorem dM_takeLeast_53 : decode cM_takeLeast 53 = .ok (.aload_n 0, 1) := by decide +kernel
theorem dM_takeLeast_54 : decode cM_takeLeast 54 = .ok (.getfield 118, 3) := by decide +kernel
theorem dM_takeLeast_57 : decode cM_takeLeast 57 = .ok (.iload_n 1, 1) := by decide +kernel
theorem dM_takeLeast_58 : decode cM_takeLeast 58 = .ok (.iaload, 1) := by decide +kernel
theorem dM_takeLeast_59 : decode cM_takeLeast 59 = .ok (.istore_n 2, 1) := by decide +kernel
theorem dM_takeLeast_60 : decode cM_takeLeast 60 = .ok (.aload_n 0, 1) := by decide +kernel
theorem dM_takeLeast_61 : decode cM_takeLeast 61 = .ok (.dup, 1) := by decide +kernel
theorem dM_takeLeast_62 : decode cM_takeLeast 62 = .ok (.getfield 383, 3) := by decide +kernel
theorem dM_takeLeast_65 : decode cM_takeLeast 65 = .ok (.iconst 1, 1) := by decide +kernel
theorem dM_takeLeast_66 : decode cM_takeLeast 66 = .ok (.isub, 1) := by decide +kernel
theorem dM_takeLeast_67 : decode cM_takeLeast 67 = .ok (.putfield 383, 3) := by decide +kernel
theorem dM_takeLeast_70 : decode cM_takeLeast 70 = .ok (.iload_n 1, 1) := by decide +kernel
theorem dM_takeLeast_71 : decode cM_takeLeast 71 = .ok (.istore_n 3, 1) := by decide +kernel
theorem dM_takeLeast_72 : decode cM_takeLeast 72 = .ok (.iload_n 3, 1) := by decide +kernel
theorem dM_takeLeast_73 : decode cM_takeLeast 73 = .ok (.aload_n 0, 1) := by decide +kernel
theorem dM_takeLeast_74 : decode cM_takeLeast 74 = .ok (.getfield 383, 3) := by decide +kernel
theorem dM_takeLeast_77 : decode cM_takeLeast 77 = .ok (.if_icmp .ge 23, 3) := by decide +kernel
theorem dM_takeLeast_80 : decode cM_takeLeast 80 = .ok (.aload_n 0, 1) := by decide +kernel
theorem dM_takeLeast_81 : decode cM_takeLeast 81 = .ok (.getfield 118, 3) := by decide +kernel
theorem dM_takeLeast_84 : decode cM_takeLeast 84 = .ok (.iload_n 3, 1) := by decide +kernel
theorem dM_takeLeast_85 : decode cM_takeLeast 85 = .ok (.aload_n 0, 1) := by decide +kernel
theorem dM_takeLeast_86 : decode cM_takeLeast 86 = .ok (.getfield 118, 3) := by decide +kernel
theorem dM_takeLeast_89 : decode cM_takeLeast 89 = .ok (.iload_n 3, 1) := by decide +kernel
theorem dM_takeLeast_90 : decode cM_takeLeast 90 = .ok (.iconst 1, 1) := by decide +kernel
theorem dM_takeLeast_91 : decode cM_takeLeast 91 = .ok (.iadd, 1) := by decide +kernel
theorem dM_takeLeast_92 : decode cM_takeLeast 92 = .ok (.iaload, 1) := by decide +kernel
theorem dM_takeLeast_93 : decode cM_takeLeast 93 = .ok (.iastore, 1) := by decide +kernel
theorem dM_takeLeast_94 : decode cM_takeLeast 94 = .ok (.iinc 3 1, 3) := by decide +kernel
theorem dM_takeLeast_97 : decode cM_takeLeast 97 = .ok (.goto (-25), 3) := by decide +kernel
theorem dM_takeLeast_100 : decode cM_takeLeast 100 = .ok (.iload_n 2, 1) := by decide +kernel
theorem dM_takeLeast_101 : decode cM_takeLeast 101 = .ok (.ireturn, 1) := by decide +kernel
def yM_old : MethodName := ⟨"CellForgeModel", "old", "()V"⟩
abbrev cM_old : ByteArray := prog_14_method_43_code
theorem dM_old_0 : decode cM_old 0 = .ok (.iconst 0, 1) := by decide +kernel
theorem dM_old_1 : decode cM_old 1 = .ok (.istore_n 1, 1) := by decide +kernel
theorem dM_old_2 : decode cM_old 2 = .ok (.iload_n 1, 1) := by decide +kernel
theorem dM_old_3 : decode cM_old 3 = .ok (.aload_n 0, 1) := by decide +kernel
theorem dM_old_4 : decode cM_old 4 = .ok (.invokevirtual 371, 3) := by decide +kernel
theorem dM_old_7 : decode cM_old 7 = .ok (.if_icmp .ge 18, 3) := by decide +kernel
theorem dM_old_10 : decode cM_old 10 = .ok (.aload_n 0, 1) := by decide +kernel
theorem dM_old_11 : decode cM_old 11 = .ok (.getfield 115, 3) := by decide +kernel
theorem dM_old_14 : decode cM_old 14 = .ok (.iload_n 1, 1) := by decide +kernel
theorem dM_old_15 : decode cM_old 15 = .ok (.iconst 2, 1) := by decide +kernel
theorem dM_old_16 : decode cM_old 16 = .ok (.iload_n 1, 1) := by decide +kernel
theorem dM_old_17 : decode cM_old 17 = .ok (.imul, 1) := by decide +kernel
theorem dM_old_18 : decode cM_old 18 = .ok (.iastore, 1) := by decide +kernel
theorem dM_old_19 : decode cM_old 19 = .ok (.iinc 1 1, 3) := by decide +kernel
theorem dM_old_22 : decode cM_old 22 = .ok (.goto (-20), 3) := by decide +kernel
theorem dM_old_25 : decode cM_old 25 = .ok (.return_, 1) := by decide +kernel
def yM_finish : MethodName := ⟨"CellForgeModel", "finish", "()I"⟩
abbrev cM_finish : ByteArray := prog_14_method_44_code
theorem dM_finish_0 : decode cM_finish 0 = .ok (.iconst 0, 1) := by decide +kernel
theorem dM_finish_1 : decode cM_finish 1 = .ok (.istore_n 1, 1) := by decide +kernel
theorem dM_finish_2 : decode cM_finish 2 = .ok (.iload_n 1, 1) := by decide +kernel
theorem dM_finish_3 : decode cM_finish 3 = .ok (.aload_n 0, 1) := by decide +kernel
theorem dM_finish_4 : decode cM_finish 4 = .ok (.getfield 337, 3) := by decide +kernel
theorem dM_finish_7 : decode cM_finish 7 = .ok (.if_icmp .ge 37, 3) := by decide +kernel
theorem dM_finish_10 : decode cM_finish 10 = .ok (.aload_n 0, 1) := by decide +kernel
theorem dM_finish_11 : decode cM_finish 11 = .ok (.getfield 85, 3) := by decide +kernel
theorem dM_finish_14 : decode cM_finish 14 = .ok (.iload_n 1, 1) := by decide +kernel
theorem dM_finish_15 : decode cM_finish 15 = .ok (.aload_n 0, 1) := by decide +kernel
theorem dM_finish_16 : decode cM_finish 16 = .ok (.getfield 115, 3) := by decide +kernel
theorem dM_finish_19 : decode cM_finish 19 = .ok (.aload_n 0, 1) := by decide +kernel
theorem dM_finish_20 : decode cM_finish 20 = .ok (.getfield 103, 3) := by decide +kernel
theorem dM_finish_23 : decode cM_finish 23 = .ok (.iload_n 1, 1) := by decide +kernel
theorem dM_finish_24 : decode cM_finish 24 = .ok (.iaload, 1) := by decide +kernel
theorem dM_finish_25 : decode cM_finish 25 = .ok (.iconst 2, 1) := by decide +kernel
theorem dM_finish_26 : decode cM_finish 26 = .ok (.idiv, 1) := by decide +kernel
theorem dM_finish_27 : decode cM_finish 27 = .ok (.iaload, 1) := by decide +kernel
theorem dM_finish_28 : decode cM_finish 28 = .ok (.aload_n 0, 1) := by decide +kernel
theorem dM_finish_29 : decode cM_finish 29 = .ok (.getfield 103, 3) := by decide +kernel
theorem dM_finish_32 : decode cM_finish 32 = .ok (.iload_n 1, 1) := by decide +kernel
theorem dM_finish_33 : decode cM_finish 33 = .ok (.iaload, 1) := by decide +kernel
theorem dM_finish_34 : decode cM_finish 34 = .ok (.iconst 1, 1) := by decide +kernel
theorem dM_finish_35 : decode cM_finish 35 = .ok (.iand, 1) := by decide +kernel
theorem dM_finish_36 : decode cM_finish 36 = .ok (.ixor, 1) := by decide +kernel
theorem dM_finish_37 : decode cM_finish 37 = .ok (.iastore, 1) := by decide +kernel
theorem dM_finish_38 : decode cM_finish 38 = .ok (.iinc 1 1, 3) := by decide +kernel
theorem dM_finish_41 : decode cM_finish 41 = .ok (.goto (-39), 3) := by decide +kernel
theorem dM_finish_44 : decode cM_finish 44 = .ok (.aload_n 0, 1) := by decide +kernel
theorem dM_finish_45 : decode cM_finish 45 = .ok (.aload_n 0, 1) := by decide +kernel
theorem dM_finish_46 : decode cM_finish 46 = .ok (.getfield 358, 3) := by decide +kernel
theorem dM_finish_49 : decode cM_finish 49 = .ok (.ifCond .ne 7, 3) := by decide +kernel
theorem dM_finish_52 : decode cM_finish 52 = .ok (.iconst 1, 1) := by decide +kernel
theorem dM_finish_53 : decode cM_finish 53 = .ok (.goto 4, 3) := by decide +kernel
theorem dM_finish_56 : decode cM_finish 56 = .ok (.iconst 0, 1) := by decide +kernel
theorem dM_finish_57 : decode cM_finish 57 = .ok (.aload_n 0, 1) := by decide +kernel
theorem dM_finish_58 : decode cM_finish 58 = .ok (.getfield 312, 3) := by decide +kernel
theorem dM_finish_61 : decode cM_finish 61 = .ok (.iconst 0, 1) := by decide +kernel
theorem dM_finish_62 : decode cM_finish 62 = .ok (.invokevirtual 235, 3) := by decide +kernel
theorem dM_finish_65 : decode cM_finish 65 = .ok (.ifCond .eq 5, 3) := by decide +kernel
theorem dM_finish_68 : decode cM_finish 68 = .ok (.iconst 0, 1) := by decide +kernel
theorem dM_finish_69 : decode cM_finish 69 = .ok (.ireturn, 1) := by decide +kernel
theorem dM_finish_70 : decode cM_finish 70 = .ok (.aload_n 0, 1) := by decide +kernel
theorem dM_finish_71 : decode cM_finish 71 = .ok (.invokevirtual 368, 3) := by decide +kernel
theorem dM_finish_74 : decode cM_finish 74 = .ok (.aload_n 0, 1) := by decide +kernel
theorem dM_finish_75 : decode cM_finish 75 = .ok (.getfield 334, 3) := by decide +kernel
theorem dM_finish_78 : decode cM_finish 78 = .ok (.ireturn, 1) := by decide +kernel
def yM_balance : MethodName := ⟨"CellForgeModel", "balance", "()I"⟩
abbrev cM_balance : ByteArray := prog_14_method_45_code
theorem dM_balance_0 : decode cM_balance 0 = .ok (.aload_n 0, 1) := by decide +kernel
theorem dM_balance_1 : decode cM_balance 1 = .ok (.aload_n 0, 1) := by decide +kernel
theorem dM_balance_2 : decode cM_balance 2 = .ok (.getfield 358, 3) := by decide +kernel
theorem dM_balance_5 : decode cM_balance 5 = .ok (.ifCond .ne 7, 3) := by decide +kernel
theorem dM_balance_8 : decode cM_balance 8 = .ok (.iconst 1, 1) := by decide +kernel
theorem dM_balance_9 : decode cM_balance 9 = .ok (.goto 4, 3) := by decide +kernel
theorem dM_balance_12 : decode cM_balance 12 = .ok (.iconst 0, 1) := by decide +kernel
theorem dM_balance_13 : decode cM_balance 13 = .ok (.iconst 0, 1) := by decide +kernel
theorem dM_balance_14 : decode cM_balance 14 = .ok (.iconst 0, 1) := by decide +kernel
theorem dM_balance_15 : decode cM_balance 15 = .ok (.invokevirtual 235, 3) := by decide +kernel
theorem dM_balance_18 : decode cM_balance 18 = .ok (.ifCond .eq 5, 3) := by decide +kernel
theorem dM_balance_21 : decode cM_balance 21 = .ok (.iconst 0, 1) := by decide +kernel
theorem dM_balance_22 : decode cM_balance 22 = .ok (.ireturn, 1) := by decide +kernel
theorem dM_balance_23 : decode cM_balance 23 = .ok (.aload_n 0, 1) := by decide +kernel
theorem dM_balance_24 : decode cM_balance 24 = .ok (.invokevirtual 389, 3) := by decide +kernel
theorem dM_balance_27 : decode cM_balance 27 = .ok (.aload_n 0, 1) := by decide +kernel
theorem dM_balance_28 : decode cM_balance 28 = .ok (.aload_n 0, 1) := by decide +kernel
theorem dM_balance_29 : decode cM_balance 29 = .ok (.invokevirtual 371, 3) := by decide +kernel
theorem dM_balance_32 : decode cM_balance 32 = .ok (.invokevirtual 328, 3) := by decide +kernel
theorem dM_balance_35 : decode cM_balance 35 = .ok (.aload_n 0, 1) := by decide +kernel
theorem dM_balance_36 : decode cM_balance 36 = .ok (.invokevirtual 392, 3) := by decide +kernel
theorem dM_balance_39 : decode cM_balance 39 = .ok (.iconst 0, 1) := by decide +kernel
theorem dM_balance_40 : decode cM_balance 40 = .ok (.istore_n 1, 1) := by decide +kernel
theorem dM_balance_41 : decode cM_balance 41 = .ok (.iload_n 1, 1) := by decide +kernel
theorem dM_balance_42 : decode cM_balance 42 = .ok (.aload_n 0, 1) := by decide +kernel
theorem dM_balance_43 : decode cM_balance 43 = .ok (.getfield 334, 3) := by decide +kernel
theorem dM_balance_46 : decode cM_balance 46 = .ok (.if_icmp .ge 108, 3) := by decide +kernel
theorem dM_balance_49 : decode cM_balance 49 = .ok (.aload_n 0, 1) := by decide +kernel
theorem dM_balance_50 : decode cM_balance 50 = .ok (.getfield 109, 3) := by decide +kernel
theorem dM_balance_53 : decode cM_balance 53 = .ok (.aload_n 0, 1) := by decide +kernel
theorem dM_balance_54 : decode cM_balance 54 = .ok (.invokevirtual 371, 3) := by decide +kernel
theorem dM_balance_57 : decode cM_balance 57 = .ok (.iload_n 1, 1) := by decide +kernel
theorem dM_balance_58 : decode cM_balance 58 = .ok (.iadd, 1) := by decide +kernel
theorem dM_balance_59 : decode cM_balance 59 = .ok (.baload, 1) := by decide +kernel
theorem dM_balance_60 : decode cM_balance 60 = .ok (.ifCond .eq 88, 3) := by decide +kernel
theorem dM_balance_63 : decode cM_balance 63 = .ok (.aload_n 0, 1) := by decide +kernel
theorem dM_balance_64 : decode cM_balance 64 = .ok (.getfield 112, 3) := by decide +kernel
theorem dM_balance_67 : decode cM_balance 67 = .ok (.aload_n 0, 1) := by decide +kernel
theorem dM_balance_68 : decode cM_balance 68 = .ok (.invokevirtual 371, 3) := by decide +kernel
theorem dM_balance_71 : decode cM_balance 71 = .ok (.iload_n 1, 1) := by decide +kernel
theorem dM_balance_72 : decode cM_balance 72 = .ok (.iadd, 1) := by decide +kernel
theorem dM_balance_73 : decode cM_balance 73 = .ok (.baload, 1) := by decide +kernel
theorem dM_balance_74 : decode cM_balance 74 = .ok (.ifCond .eq 6, 3) := by decide +kernel
theorem dM_balance_77 : decode cM_balance 77 = .ok (.goto 71, 3) := by decide +kernel
theorem dM_balance_80 : decode cM_balance 80 = .ok (.aload_n 0, 1) := by decide +kernel
theorem dM_balance_81 : decode cM_balance 81 = .ok (.iload_n 1, 1) := by decide +kernel
theorem dM_balance_82 : decode cM_balance 82 = .ok (.invokevirtual 395, 3) := by decide +kernel
theorem dM_balance_85 : decode cM_balance 85 = .ok (.aload_n 0, 1) := by decide +kernel
theorem dM_balance_86 : decode cM_balance 86 = .ok (.getfield 383, 3) := by decide +kernel
theorem dM_balance_89 : decode cM_balance 89 = .ok (.iconst 1, 1) := by decide +kernel
theorem dM_balance_90 : decode cM_balance 90 = .ok (.if_icmp .le 41, 3) := by decide +kernel
theorem dM_balance_93 : decode cM_balance 93 = .ok (.aload_n 0, 1) := by decide +kernel
theorem dM_balance_94 : decode cM_balance 94 = .ok (.invokevirtual 398, 3) := by decide +kernel
theorem dM_balance_97 : decode cM_balance 97 = .ok (.istore_n 2, 1) := by decide +kernel
theorem dM_balance_98 : decode cM_balance 98 = .ok (.aload_n 0, 1) := by decide +kernel
theorem dM_balance_99 : decode cM_balance 99 = .ok (.invokevirtual 398, 3) := by decide +kernel
theorem dM_balance_102 : decode cM_balance 102 = .ok (.istore_n 3, 1) := by decide +kernel
theorem dM_balance_103 : decode cM_balance 103 = .ok (.aload_n 0, 1) := by decide +kernel
theorem dM_balance_104 : decode cM_balance 104 = .ok (.getfield 118, 3) := by decide +kernel
theorem dM_balance_107 : decode cM_balance 107 = .ok (.aload_n 0, 1) := by decide +kernel
theorem dM_balance_108 : decode cM_balance 108 = .ok (.getfield 383, 3) := by decide +kernel
theorem dM_balance_111 : decode cM_balance 111 = .ok (.aload_n 0, 1) := by decide +kernel
theorem dM_balance_112 : decode cM_balance 112 = .ok (.iload_n 2, 1) := by decide +kernel
theorem dM_balance_113 : decode cM_balance 113 = .ok (.iload_n 3, 1) := by decide +kernel
theorem dM_balance_114 : decode cM_balance 114 = .ok (.invokevirtual 319, 3) := by decide +kernel
theorem dM_balance_117 : decode cM_balance 117 = .ok (.iastore, 1) := by decide +kernel
theorem dM_balance_118 : decode cM_balance 118 = .ok (.aload_n 0, 1) := by decide +kernel
theorem dM_balance_119 : decode cM_balance 119 = .ok (.dup, 1) := by decide +kernel
theorem dM_balance_120 : decode cM_balance 120 = .ok (.getfield 383, 3) := by decide +kernel
theorem dM_balance_123 : decode cM_balance 123 = .ok (.iconst 1, 1) := by decide +kernel
theorem dM_balance_124 : decode cM_balance 124 = .ok (.iadd, 1) := by decide +kernel
theorem dM_balance_125 : decode cM_balance 125 = .ok (.putfield 383, 3) := by decide +kernel
theorem dM_balance_128 : decode cM_balance 128 = .ok (.goto (-43), 3) := by decide +kernel
theorem dM_balance_131 : decode cM_balance 131 = .ok (.aload_n 0, 1) := by decide +kernel
theorem dM_balance_132 : decode cM_balance 132 = .ok (.getfield 115, 3) := by decide +kernel
theorem dM_balance_135 : decode cM_balance 135 = .ok (.aload_n 0, 1) := by decide +kernel
theorem dM_balance_136 : decode cM_balance 136 = .ok (.invokevirtual 371, 3) := by decide +kernel
theorem dM_balance_139 : decode cM_balance 139 = .ok (.iload_n 1, 1) := by decide +kernel
theorem dM_balance_140 : decode cM_balance 140 = .ok (.iadd, 1) := by decide +kernel
theorem dM_balance_141 : decode cM_balance 141 = .ok (.aload_n 0, 1) := by decide +kernel
theorem dM_balance_142 : decode cM_balance 142 = .ok (.getfield 118, 3) := by decide +kernel
theorem dM_balance_145 : decode cM_balance 145 = .ok (.iconst 0, 1) := by decide +kernel
theorem dM_balance_146 : decode cM_balance 146 = .ok (.iaload, 1) := by decide +kernel
theorem dM_balance_147 : decode cM_balance 147 = .ok (.iastore, 1) := by decide +kernel
theorem dM_balance_148 : decode cM_balance 148 = .ok (.iinc 1 1, 3) := by decide +kernel
theorem dM_balance_151 : decode cM_balance 151 = .ok (.goto (-110), 3) := by decide +kernel
theorem dM_balance_154 : decode cM_balance 154 = .ok (.aload_n 0, 1) := by decide +kernel
theorem dM_balance_155 : decode cM_balance 155 = .ok (.invokevirtual 401, 3) := by decide +kernel
theorem dM_balance_158 : decode cM_balance 158 = .ok (.ireturn, 1) := by decide +kernel
theorem wv_2448 : Cond.methodLink "CellForgeModel" 398 (⟨"CellForgeModel", "takeLeast", "()I"⟩ : MethodName) ∈ cfB := cf_in 2448 (by decide +kernel) rfl
theorem wv_2451 : Cond.code (⟨"CellForgeModel", "takeLeast", "()I"⟩ : MethodName) prog_14_method_42_code 4 (Option.some Jvm.ClassFile.FieldType.int) ∈ cfB := cf_in 2451 (by decide +kernel) rfl
theorem wv_2450 : Cond.instanceMethod (⟨"CellForgeModel", "takeLeast", "()I"⟩ : MethodName) ∈ cfB := cf_in 2450 (by decide +kernel) rfl
theorem wv_94 : Cond.selects "CellForgeModel" (⟨"CellForgeModel", "takeLeast", "()I"⟩ : MethodName) (⟨"CellForgeModel", "takeLeast", "()I"⟩ : MethodName) ∈ cfB := cf_in 94 (by decide +kernel) rfl
theorem wv_2452 : Cond.methodLink "CellForgeModel" 401 (⟨"CellForgeModel", "finish", "()I"⟩ : MethodName) ∈ cfB := cf_in 2452 (by decide +kernel) rfl
theorem wv_2455 : Cond.code (⟨"CellForgeModel", "finish", "()I"⟩ : MethodName) prog_14_method_44_code 2 (Option.some Jvm.ClassFile.FieldType.int) ∈ cfB := cf_in 2455 (by decide +kernel) rfl
theorem wv_2454 : Cond.instanceMethod (⟨"CellForgeModel", "finish", "()I"⟩ : MethodName) ∈ cfB := cf_in 2454 (by decide +kernel) rfl
theorem wv_95 : Cond.selects "CellForgeModel" (⟨"CellForgeModel", "finish", "()I"⟩ : MethodName) (⟨"CellForgeModel", "finish", "()I"⟩ : MethodName) ∈ cfB := cf_in 95 (by decide +kernel) rfl
theorem wv_2444 : Cond.methodLink "CellForgeModel" 395 (⟨"CellForgeModel", "leaves", "(I)V"⟩ : MethodName) ∈ cfB := cf_in 2444 (by decide +kernel) rfl
set_option maxRecDepth 100000 in
theorem wv_2447 : Cond.code (⟨"CellForgeModel", "leaves", "(I)V"⟩ : MethodName) prog_14_method_41_code 4 (Option.none : Option Jvm.ClassFile.FieldType) ∈ cfB := List.mem_filter.mpr ⟨List.mem_append_right _ (List.mem_append_right _ (List.mem_append_right _ (List.mem_append_right _ (List.mem_append_right _ (List.mem_append_right _ (List.mem_append_right _ (List.mem_append_right _ (List.mem_append_right _ (List.mem_append_right _ (List.mem_append_left _ (List.mem_of_getElem? (i := 131) rfl))))))))))), rfl⟩
theorem wv_2446 : Cond.instanceMethod (⟨"CellForgeModel", "leaves", "(I)V"⟩ : MethodName) ∈ cfB := cf_in 2446 (by decide +kernel) rfl
theorem wv_93 : Cond.selects "CellForgeModel" (⟨"CellForgeModel", "leaves", "(I)V"⟩ : MethodName) (⟨"CellForgeModel", "leaves", "(I)V"⟩ : MethodName) ∈ cfB := cf_in 93 (by decide +kernel) rfl
theorem wv_2432 : Cond.methodLink "CellForgeModel" 389 (⟨"CellForgeModel", "look", "()V"⟩ : MethodName) ∈ cfB := cf_in 2432 (by decide +kernel) rfl
set_option maxRecDepth 100000 in
theorem wv_2435 : Cond.code (⟨"CellForgeModel", "look", "()V"⟩ : MethodName) prog_14_method_39_code 2 (Option.none : Option Jvm.ClassFile.FieldType) ∈ cfB := List.mem_filter.mpr ⟨List.mem_append_right _ (List.mem_append_right _ (List.mem_append_right _ (List.mem_append_right _ (List.mem_append_right _ (List.mem_append_right _ (List.mem_append_right _ (List.mem_append_right _ (List.mem_append_right _ (List.mem_append_right _ (List.mem_append_left _ (List.mem_of_getElem? (i := 119) rfl))))))))))), rfl⟩
theorem wv_2434 : Cond.instanceMethod (⟨"CellForgeModel", "look", "()V"⟩ : MethodName) ∈ cfB := cf_in 2434 (by decide +kernel) rfl
theorem wv_90 : Cond.selects "CellForgeModel" (⟨"CellForgeModel", "look", "()V"⟩ : MethodName) (⟨"CellForgeModel", "look", "()V"⟩ : MethodName) ∈ cfB := cf_in 90 (by decide +kernel) rfl
theorem wv_2440 : Cond.methodLink "CellForgeModel" 392 (⟨"CellForgeModel", "old", "()V"⟩ : MethodName) ∈ cfB := cf_in 2440 (by decide +kernel) rfl
theorem wv_2443 : Cond.code (⟨"CellForgeModel", "old", "()V"⟩ : MethodName) prog_14_method_43_code 2 (Option.none : Option Jvm.ClassFile.FieldType) ∈ cfB := cf_in 2443 (by decide +kernel) rfl
theorem wv_2442 : Cond.instanceMethod (⟨"CellForgeModel", "old", "()V"⟩ : MethodName) ∈ cfB := cf_in 2442 (by decide +kernel) rfl
theorem wv_92 : Cond.selects "CellForgeModel" (⟨"CellForgeModel", "old", "()V"⟩ : MethodName) (⟨"CellForgeModel", "old", "()V"⟩ : MethodName) ∈ cfB := cf_in 92 (by decide +kernel) rfl
def yM_reckon : MethodName := ⟨"CellForgeModel", "reckon", "()V"⟩
abbrev cM_reckon : ByteArray := prog_14_method_46_code
theorem dM_reckon_0 : decode cM_reckon 0 = .ok (.iconst 1, 1) := by decide +kernel
theorem dM_reckon_1 : decode cM_reckon 1 = .ok (.aload_n 0, 1) := by decide +kernel
theorem dM_reckon_2 : decode cM_reckon 2 = .ok (.getfield 361, 3) := by decide +kernel
theorem dM_reckon_5 : decode cM_reckon 5 = .ok (.ishl, 1) := by decide +kernel
theorem dM_reckon_6 : decode cM_reckon 6 = .ok (.istore_n 1, 1) := by decide +kernel
theorem dM_reckon_7 : decode cM_reckon 7 = .ok (.iconst 0, 1) := by decide +kernel
theorem dM_reckon_8 : decode cM_reckon 8 = .ok (.istore_n 2, 1) := by decide +kernel
theorem dM_reckon_9 : decode cM_reckon 9 = .ok (.iload_n 2, 1) := by decide +kernel
theorem dM_reckon_10 : decode cM_reckon 10 = .ok (.sipush 840, 3) := by decide +kernel
theorem dM_reckon_13 : decode cM_reckon 13 = .ok (.if_icmp .ge 16, 3) := by decide +kernel
theorem dM_reckon_16 : decode cM_reckon 16 = .ok (.aload_n 0, 1) := by decide +kernel
theorem dM_reckon_17 : decode cM_reckon 17 = .ok (.getfield 124, 3) := by decide +kernel
theorem dM_reckon_20 : decode cM_reckon 20 = .ok (.iload_n 2, 1) := by decide +kernel
theorem dM_reckon_21 : decode cM_reckon 21 = .ok (.lconst 0, 1) := by decide +kernel
theorem dM_reckon_22 : decode cM_reckon 22 = .ok (.lastore, 1) := by decide +kernel
theorem dM_reckon_23 : decode cM_reckon 23 = .ok (.iinc 2 1, 3) := by decide +kernel
theorem dM_reckon_26 : decode cM_reckon 26 = .ok (.goto (-17), 3) := by decide +kernel
theorem dM_reckon_29 : decode cM_reckon 29 = .ok (.iconst 0, 1) := by decide +kernel
theorem dM_reckon_30 : decode cM_reckon 30 = .ok (.istore_n 2, 1) := by decide +kernel
theorem dM_reckon_31 : decode cM_reckon 31 = .ok (.iload_n 2, 1) := by decide +kernel
theorem dM_reckon_32 : decode cM_reckon 32 = .ok (.iload_n 1, 1) := by decide +kernel
theorem dM_reckon_33 : decode cM_reckon 33 = .ok (.if_icmp .ge 94, 3) := by decide +kernel
theorem dM_reckon_36 : decode cM_reckon 36 = .ok (.aload_n 0, 1) := by decide +kernel
theorem dM_reckon_37 : decode cM_reckon 37 = .ok (.iload_n 2, 1) := by decide +kernel
theorem dM_reckon_38 : decode cM_reckon 38 = .ok (.invokevirtual 404, 3) := by decide +kernel
theorem dM_reckon_41 : decode cM_reckon 41 = .ok (.pop, 1) := by decide +kernel
theorem dM_reckon_42 : decode cM_reckon 42 = .ok (.iconst 0, 1) := by decide +kernel
theorem dM_reckon_43 : decode cM_reckon 43 = .ok (.istore_n 3, 1) := by decide +kernel
theorem dM_reckon_44 : decode cM_reckon 44 = .ok (.iload_n 3, 1) := by decide +kernel
theorem dM_reckon_45 : decode cM_reckon 45 = .ok (.aload_n 0, 1) := by decide +kernel
theorem dM_reckon_46 : decode cM_reckon 46 = .ok (.invokevirtual 371, 3) := by decide +kernel
theorem dM_reckon_49 : decode cM_reckon 49 = .ok (.aload_n 0, 1) := by decide +kernel
theorem dM_reckon_50 : decode cM_reckon 50 = .ok (.getfield 334, 3) := by decide +kernel
theorem dM_reckon_53 : decode cM_reckon 53 = .ok (.iadd, 1) := by decide +kernel
theorem dM_reckon_54 : decode cM_reckon 54 = .ok (.if_icmp .ge 67, 3) := by decide +kernel
theorem dM_reckon_57 : decode cM_reckon 57 = .ok (.aload_n 0, 1) := by decide +kernel
theorem dM_reckon_58 : decode cM_reckon 58 = .ok (.getfield 124, 3) := by decide +kernel
theorem dM_reckon_61 : decode cM_reckon 61 = .ok (.iconst 4, 1) := by decide +kernel
theorem dM_reckon_62 : decode cM_reckon 62 = .ok (.iload_n 3, 1) := by decide +kernel
theorem dM_reckon_63 : decode cM_reckon 63 = .ok (.imul, 1) := by decide +kernel
theorem dM_reckon_64 : decode cM_reckon 64 = .ok (.iload_n 2, 1) := by decide +kernel
theorem dM_reckon_65 : decode cM_reckon 65 = .ok (.bipush 64, 2) := by decide +kernel
theorem dM_reckon_67 : decode cM_reckon 67 = .ok (.idiv, 1) := by decide +kernel
theorem dM_reckon_68 : decode cM_reckon 68 = .ok (.iadd, 1) := by decide +kernel
theorem dM_reckon_69 : decode cM_reckon 69 = .ok (.aload_n 0, 1) := by decide +kernel
theorem dM_reckon_70 : decode cM_reckon 70 = .ok (.getfield 168, 3) := by decide +kernel
theorem dM_reckon_73 : decode cM_reckon 73 = .ok (.iload_n 3, 1) := by decide +kernel
theorem dM_reckon_74 : decode cM_reckon 74 = .ok (.baload, 1) := by decide +kernel
theorem dM_reckon_75 : decode cM_reckon 75 = .ok (.ifCond .eq 26, 3) := by decide +kernel
theorem dM_reckon_78 : decode cM_reckon 78 = .ok (.aload_n 0, 1) := by decide +kernel
theorem dM_reckon_79 : decode cM_reckon 79 = .ok (.getfield 124, 3) := by decide +kernel
theorem dM_reckon_82 : decode cM_reckon 82 = .ok (.iconst 4, 1) := by decide +kernel
theorem dM_reckon_83 : decode cM_reckon 83 = .ok (.iload_n 3, 1) := by decide +kernel
theorem dM_reckon_84 : decode cM_reckon 84 = .ok (.imul, 1) := by decide +kernel
theorem dM_reckon_85 : decode cM_reckon 85 = .ok (.iload_n 2, 1) := by decide +kernel
theorem dM_reckon_86 : decode cM_reckon 86 = .ok (.bipush 64, 2) := by decide +kernel
theorem dM_reckon_88 : decode cM_reckon 88 = .ok (.idiv, 1) := by decide +kernel
theorem dM_reckon_89 : decode cM_reckon 89 = .ok (.iadd, 1) := by decide +kernel
theorem dM_reckon_90 : decode cM_reckon 90 = .ok (.laload, 1) := by decide +kernel
theorem dM_reckon_91 : decode cM_reckon 91 = .ok (.lconst 1, 1) := by decide +kernel
theorem dM_reckon_92 : decode cM_reckon 92 = .ok (.iload_n 2, 1) := by decide +kernel
theorem dM_reckon_93 : decode cM_reckon 93 = .ok (.bipush 64, 2) := by decide +kernel
theorem dM_reckon_95 : decode cM_reckon 95 = .ok (.irem, 1) := by decide +kernel
theorem dM_reckon_96 : decode cM_reckon 96 = .ok (.lshl, 1) := by decide +kernel
theorem dM_reckon_97 : decode cM_reckon 97 = .ok (.lor, 1) := by decide +kernel
theorem dM_reckon_98 : decode cM_reckon 98 = .ok (.goto 16, 3) := by decide +kernel
theorem dM_reckon_101 : decode cM_reckon 101 = .ok (.aload_n 0, 1) := by decide +kernel
theorem dM_reckon_102 : decode cM_reckon 102 = .ok (.getfield 124, 3) := by decide +kernel
theorem dM_reckon_105 : decode cM_reckon 105 = .ok (.iconst 4, 1) := by decide +kernel
theorem dM_reckon_106 : decode cM_reckon 106 = .ok (.iload_n 3, 1) := by decide +kernel
theorem dM_reckon_107 : decode cM_reckon 107 = .ok (.imul, 1) := by decide +kernel
theorem dM_reckon_108 : decode cM_reckon 108 = .ok (.iload_n 2, 1) := by decide +kernel
theorem dM_reckon_109 : decode cM_reckon 109 = .ok (.bipush 64, 2) := by decide +kernel
theorem dM_reckon_111 : decode cM_reckon 111 = .ok (.idiv, 1) := by decide +kernel
theorem dM_reckon_112 : decode cM_reckon 112 = .ok (.iadd, 1) := by decide +kernel
theorem dM_reckon_113 : decode cM_reckon 113 = .ok (.laload, 1) := by decide +kernel
theorem dM_reckon_114 : decode cM_reckon 114 = .ok (.lastore, 1) := by decide +kernel
theorem dM_reckon_115 : decode cM_reckon 115 = .ok (.iinc 3 1, 3) := by decide +kernel
theorem dM_reckon_118 : decode cM_reckon 118 = .ok (.goto (-74), 3) := by decide +kernel
theorem dM_reckon_121 : decode cM_reckon 121 = .ok (.iinc 2 1, 3) := by decide +kernel
theorem dM_reckon_124 : decode cM_reckon 124 = .ok (.goto (-93), 3) := by decide +kernel
theorem dM_reckon_127 : decode cM_reckon 127 = .ok (.return_, 1) := by decide +kernel
theorem wv_2464 : Cond.methodLink "CellForgeModel" 404 (⟨"CellForgeModel", "value", "(I)I"⟩ : MethodName) ∈ cfB := cf_in 2464 (by decide +kernel) rfl
set_option maxRecDepth 100000 in
theorem wv_2423 : Cond.code (⟨"CellForgeModel", "value", "(I)I"⟩ : MethodName) prog_14_method_38_code 4 (Option.some Jvm.ClassFile.FieldType.int) ∈ cfB := List.mem_filter.mpr ⟨List.mem_append_right _ (List.mem_append_right _ (List.mem_append_right _ (List.mem_append_right _ (List.mem_append_right _ (List.mem_append_right _ (List.mem_append_right _ (List.mem_append_right _ (List.mem_append_right _ (List.mem_append_right _ (List.mem_append_left _ (List.mem_of_getElem? (i := 107) rfl))))))))))), rfl⟩
theorem wv_2421 : Cond.instanceMethod (⟨"CellForgeModel", "value", "(I)I"⟩ : MethodName) ∈ cfB := cf_in 2421 (by decide +kernel) rfl
theorem wv_2422 : Cond.selects "CellForgeModel" (⟨"CellForgeModel", "value", "(I)I"⟩ : MethodName) (⟨"CellForgeModel", "value", "(I)I"⟩ : MethodName) ∈ cfB := cf_in 2422 (by decide +kernel) rfl
def yM_agree : MethodName := ⟨"CellForgeModel", "agree", "(IIZ)Z"⟩
abbrev cM_agree : ByteArray := prog_14_method_47_code
theorem dM_agree_0 : decode cM_agree 0 = .ok (.iconst 1, 1) := by decide +kernel
theorem dM_agree_1 : decode cM_agree 1 = .ok (.istore 4, 2) := by decide +kernel
theorem dM_agree_3 : decode cM_agree 3 = .ok (.iconst 1, 1) := by decide +kernel
theorem dM_agree_4 : decode cM_agree 4 = .ok (.aload_n 0, 1) := by decide +kernel
theorem dM_agree_5 : decode cM_agree 5 = .ok (.getfield 361, 3) := by decide +kernel
theorem dM_agree_8 : decode cM_agree 8 = .ok (.ishl, 1) := by decide +kernel
theorem dM_agree_9 : decode cM_agree 9 = .ok (.istore 5, 2) := by decide +kernel
theorem dM_agree_11 : decode cM_agree 11 = .ok (.iconst 0, 1) := by decide +kernel
theorem dM_agree_12 : decode cM_agree 12 = .ok (.istore 6, 2) := by decide +kernel
theorem dM_agree_14 : decode cM_agree 14 = .ok (.iload 6, 2) := by decide +kernel
theorem dM_agree_16 : decode cM_agree 16 = .ok (.iconst 4, 1) := by decide +kernel
theorem dM_agree_17 : decode cM_agree 17 = .ok (.if_icmp .ge 104, 3) := by decide +kernel
theorem dM_agree_20 : decode cM_agree 20 = .ok (.iload 5, 2) := by decide +kernel
theorem dM_agree_22 : decode cM_agree 22 = .ok (.bipush 64, 2) := by decide +kernel
theorem dM_agree_24 : decode cM_agree 24 = .ok (.iload 6, 2) := by decide +kernel
theorem dM_agree_26 : decode cM_agree 26 = .ok (.iconst 1, 1) := by decide +kernel
theorem dM_agree_27 : decode cM_agree 27 = .ok (.iadd, 1) := by decide +kernel
theorem dM_agree_28 : decode cM_agree 28 = .ok (.imul, 1) := by decide +kernel
theorem dM_agree_29 : decode cM_agree 29 = .ok (.if_icmp .lt 9, 3) := by decide +kernel
theorem dM_agree_32 : decode cM_agree 32 = .ok (.ldc2_w 407, 3) := by decide +kernel
theorem dM_agree_35 : decode cM_agree 35 = .ok (.goto 29, 3) := by decide +kernel
theorem dM_agree_38 : decode cM_agree 38 = .ok (.iload 5, 2) := by decide +kernel
theorem dM_agree_40 : decode cM_agree 40 = .ok (.bipush 64, 2) := by decide +kernel
theorem dM_agree_42 : decode cM_agree 42 = .ok (.iload 6, 2) := by decide +kernel
theorem dM_agree_44 : decode cM_agree 44 = .ok (.imul, 1) := by decide +kernel
theorem dM_agree_45 : decode cM_agree 45 = .ok (.if_icmp .le 18, 3) := by decide +kernel
theorem dM_agree_48 : decode cM_agree 48 = .ok (.lconst 1, 1) := by decide +kernel
theorem dM_agree_49 : decode cM_agree 49 = .ok (.iload 5, 2) := by decide +kernel
theorem dM_agree_51 : decode cM_agree 51 = .ok (.bipush 64, 2) := by decide +kernel
theorem dM_agree_53 : decode cM_agree 53 = .ok (.iload 6, 2) := by decide +kernel
theorem dM_agree_55 : decode cM_agree 55 = .ok (.imul, 1) := by decide +kernel
theorem dM_agree_56 : decode cM_agree 56 = .ok (.isub, 1) := by decide +kernel
theorem dM_agree_57 : decode cM_agree 57 = .ok (.lshl, 1) := by decide +kernel
theorem dM_agree_58 : decode cM_agree 58 = .ok (.lconst 1, 1) := by decide +kernel
theorem dM_agree_59 : decode cM_agree 59 = .ok (.lsub, 1) := by decide +kernel
theorem dM_agree_60 : decode cM_agree 60 = .ok (.goto 4, 3) := by decide +kernel
theorem dM_agree_63 : decode cM_agree 63 = .ok (.lconst 0, 1) := by decide +kernel
theorem dM_agree_64 : decode cM_agree 64 = .ok (.lstore 7, 2) := by decide +kernel
theorem dM_agree_66 : decode cM_agree 66 = .ok (.iload 4, 2) := by decide +kernel
theorem dM_agree_68 : decode cM_agree 68 = .ok (.ifCond .eq 44, 3) := by decide +kernel
theorem dM_agree_71 : decode cM_agree 71 = .ok (.aload_n 0, 1) := by decide +kernel
theorem dM_agree_72 : decode cM_agree 72 = .ok (.getfield 124, 3) := by decide +kernel
theorem dM_agree_75 : decode cM_agree 75 = .ok (.iconst 4, 1) := by decide +kernel
theorem dM_agree_76 : decode cM_agree 76 = .ok (.iload_n 1, 1) := by decide +kernel
theorem dM_agree_77 : decode cM_agree 77 = .ok (.imul, 1) := by decide +kernel
theorem dM_agree_78 : decode cM_agree 78 = .ok (.iload 6, 2) := by decide +kernel
theorem dM_agree_80 : decode cM_agree 80 = .ok (.iadd, 1) := by decide +kernel
theorem dM_agree_81 : decode cM_agree 81 = .ok (.laload, 1) := by decide +kernel
theorem dM_agree_82 : decode cM_agree 82 = .ok (.aload_n 0, 1) := by decide +kernel
theorem dM_agree_83 : decode cM_agree 83 = .ok (.getfield 124, 3) := by decide +kernel
theorem dM_agree_86 : decode cM_agree 86 = .ok (.iconst 4, 1) := by decide +kernel
theorem dM_agree_87 : decode cM_agree 87 = .ok (.iload_n 2, 1) := by decide +kernel
theorem dM_agree_88 : decode cM_agree 88 = .ok (.imul, 1) := by decide +kernel
theorem dM_agree_89 : decode cM_agree 89 = .ok (.iload 6, 2) := by decide +kernel
theorem dM_agree_91 : decode cM_agree 91 = .ok (.iadd, 1) := by decide +kernel
theorem dM_agree_92 : decode cM_agree 92 = .ok (.laload, 1) := by decide +kernel
theorem dM_agree_93 : decode cM_agree 93 = .ok (.lxor, 1) := by decide +kernel
theorem dM_agree_94 : decode cM_agree 94 = .ok (.iload_n 3, 1) := by decide +kernel
theorem dM_agree_95 : decode cM_agree 95 = .ok (.ifCond .eq 8, 3) := by decide +kernel
theorem dM_agree_98 : decode cM_agree 98 = .ok (.lload 7, 2) := by decide +kernel
theorem dM_agree_100 : decode cM_agree 100 = .ok (.goto 4, 3) := by decide +kernel
theorem dM_agree_103 : decode cM_agree 103 = .ok (.lconst 0, 1) := by decide +kernel
theorem dM_agree_104 : decode cM_agree 104 = .ok (.lcmp, 1) := by decide +kernel
theorem dM_agree_105 : decode cM_agree 105 = .ok (.ifCond .ne 7, 3) := by decide +kernel
theorem dM_agree_108 : decode cM_agree 108 = .ok (.iconst 1, 1) := by decide +kernel
theorem dM_agree_109 : decode cM_agree 109 = .ok (.goto 4, 3) := by decide +kernel
theorem dM_agree_112 : decode cM_agree 112 = .ok (.iconst 0, 1) := by decide +kernel
theorem dM_agree_113 : decode cM_agree 113 = .ok (.istore 4, 2) := by decide +kernel
theorem dM_agree_115 : decode cM_agree 115 = .ok (.iinc 6 1, 3) := by decide +kernel
theorem dM_agree_118 : decode cM_agree 118 = .ok (.goto (-104), 3) := by decide +kernel
theorem dM_agree_121 : decode cM_agree 121 = .ok (.iload 4, 2) := by decide +kernel
theorem dM_agree_123 : decode cM_agree 123 = .ok (.ireturn, 1) := by decide +kernel
theorem wv_2469 : Cond.constantLong "CellForgeModel" 407 (-1) ∈ cfB := cf_in 2469 (by decide +kernel) rfl
def yM_reduce : MethodName := ⟨"CellForgeModel", "reduce", "()I"⟩
abbrev cM_reduce : ByteArray := prog_14_method_48_code
theorem dM_reduce_0 : decode cM_reduce 0 = .ok (.aload_n 0, 1) := by decide +kernel
theorem dM_reduce_1 : decode cM_reduce 1 = .ok (.aload_n 0, 1) := by decide +kernel
theorem dM_reduce_2 : decode cM_reduce 2 = .ok (.getfield 358, 3) := by decide +kernel
theorem dM_reduce_5 : decode cM_reduce 5 = .ok (.ifCond .ne 7, 3) := by decide +kernel
theorem dM_reduce_8 : decode cM_reduce 8 = .ok (.iconst 1, 1) := by decide +kernel
theorem dM_reduce_9 : decode cM_reduce 9 = .ok (.goto 4, 3) := by decide +kernel
theorem dM_reduce_12 : decode cM_reduce 12 = .ok (.iconst 0, 1) := by decide +kernel
theorem dM_reduce_13 : decode cM_reduce 13 = .ok (.iconst 0, 1) := by decide +kernel
theorem dM_reduce_14 : decode cM_reduce 14 = .ok (.iconst 0, 1) := by decide +kernel
theorem dM_reduce_15 : decode cM_reduce 15 = .ok (.invokevirtual 235, 3) := by decide +kernel
theorem dM_reduce_18 : decode cM_reduce 18 = .ok (.ifCond .eq 5, 3) := by decide +kernel
theorem dM_reduce_21 : decode cM_reduce 21 = .ok (.iconst 0, 1) := by decide +kernel
theorem dM_reduce_22 : decode cM_reduce 22 = .ok (.ireturn, 1) := by decide +kernel
theorem dM_reduce_23 : decode cM_reduce 23 = .ok (.aload_n 0, 1) := by decide +kernel
theorem dM_reduce_24 : decode cM_reduce 24 = .ok (.invokevirtual 389, 3) := by decide +kernel
theorem dM_reduce_27 : decode cM_reduce 27 = .ok (.aload_n 0, 1) := by decide +kernel
theorem dM_reduce_28 : decode cM_reduce 28 = .ok (.invokevirtual 409, 3) := by decide +kernel
theorem dM_reduce_31 : decode cM_reduce 31 = .ok (.aload_n 0, 1) := by decide +kernel
theorem dM_reduce_32 : decode cM_reduce 32 = .ok (.aload_n 0, 1) := by decide +kernel
theorem dM_reduce_33 : decode cM_reduce 33 = .ok (.invokevirtual 371, 3) := by decide +kernel
theorem dM_reduce_36 : decode cM_reduce 36 = .ok (.invokevirtual 328, 3) := by decide +kernel
theorem dM_reduce_39 : decode cM_reduce 39 = .ok (.aload_n 0, 1) := by decide +kernel
theorem dM_reduce_40 : decode cM_reduce 40 = .ok (.invokevirtual 392, 3) := by decide +kernel
theorem dM_reduce_43 : decode cM_reduce 43 = .ok (.iconst 0, 1) := by decide +kernel
theorem dM_reduce_44 : decode cM_reduce 44 = .ok (.istore_n 1, 1) := by decide +kernel
theorem dM_reduce_45 : decode cM_reduce 45 = .ok (.iload_n 1, 1) := by decide +kernel
theorem dM_reduce_46 : decode cM_reduce 46 = .ok (.aload_n 0, 1) := by decide +kernel
theorem dM_reduce_47 : decode cM_reduce 47 = .ok (.getfield 334, 3) := by decide +kernel
theorem dM_reduce_50 : decode cM_reduce 50 = .ok (.if_icmp .ge 201, 3) := by decide +kernel
theorem dM_reduce_53 : decode cM_reduce 53 = .ok (.aload_n 0, 1) := by decide +kernel
theorem dM_reduce_54 : decode cM_reduce 54 = .ok (.invokevirtual 371, 3) := by decide +kernel
theorem dM_reduce_57 : decode cM_reduce 57 = .ok (.iload_n 1, 1) := by decide +kernel
theorem dM_reduce_58 : decode cM_reduce 58 = .ok (.iadd, 1) := by decide +kernel
theorem dM_reduce_59 : decode cM_reduce 59 = .ok (.istore_n 2, 1) := by decide +kernel
theorem dM_reduce_60 : decode cM_reduce 60 = .ok (.iconst (-1), 1) := by decide +kernel
theorem dM_reduce_61 : decode cM_reduce 61 = .ok (.istore_n 3, 1) := by decide +kernel
theorem dM_reduce_62 : decode cM_reduce 62 = .ok (.iload_n 2, 1) := by decide +kernel
theorem dM_reduce_63 : decode cM_reduce 63 = .ok (.iconst 1, 1) := by decide +kernel
theorem dM_reduce_64 : decode cM_reduce 64 = .ok (.isub, 1) := by decide +kernel
theorem dM_reduce_65 : decode cM_reduce 65 = .ok (.istore 4, 2) := by decide +kernel
theorem dM_reduce_67 : decode cM_reduce 67 = .ok (.iload 4, 2) := by decide +kernel
theorem dM_reduce_69 : decode cM_reduce 69 = .ok (.ifCond .lt 78, 3) := by decide +kernel
theorem dM_reduce_72 : decode cM_reduce 72 = .ok (.aload_n 0, 1) := by decide +kernel
theorem dM_reduce_73 : decode cM_reduce 73 = .ok (.getfield 109, 3) := by decide +kernel
theorem dM_reduce_76 : decode cM_reduce 76 = .ok (.iload_n 2, 1) := by decide +kernel
theorem dM_reduce_77 : decode cM_reduce 77 = .ok (.baload, 1) := by decide +kernel
theorem dM_reduce_78 : decode cM_reduce 78 = .ok (.ifCond .eq 69, 3) := by decide +kernel
theorem dM_reduce_81 : decode cM_reduce 81 = .ok (.iload 4, 2) := by decide +kernel
theorem dM_reduce_83 : decode cM_reduce 83 = .ok (.aload_n 0, 1) := by decide +kernel
theorem dM_reduce_84 : decode cM_reduce 84 = .ok (.invokevirtual 371, 3) := by decide +kernel
theorem dM_reduce_87 : decode cM_reduce 87 = .ok (.if_icmp .lt 13, 3) := by decide +kernel
theorem dM_reduce_90 : decode cM_reduce 90 = .ok (.aload_n 0, 1) := by decide +kernel
theorem dM_reduce_91 : decode cM_reduce 91 = .ok (.getfield 109, 3) := by decide +kernel
theorem dM_reduce_94 : decode cM_reduce 94 = .ok (.iload 4, 2) := by decide +kernel
theorem dM_reduce_96 : decode cM_reduce 96 = .ok (.baload, 1) := by decide +kernel
theorem dM_reduce_97 : decode cM_reduce 97 = .ok (.ifCond .eq 7, 3) := by decide +kernel
theorem dM_reduce_100 : decode cM_reduce 100 = .ok (.iconst 1, 1) := by decide +kernel
theorem dM_reduce_101 : decode cM_reduce 101 = .ok (.goto 4, 3) := by decide +kernel
theorem dM_reduce_104 : decode cM_reduce 104 = .ok (.iconst 0, 1) := by decide +kernel
theorem dM_reduce_105 : decode cM_reduce 105 = .ok (.istore 5, 2) := by decide +kernel
theorem dM_reduce_107 : decode cM_reduce 107 = .ok (.iload 5, 2) := by decide +kernel
theorem dM_reduce_109 : decode cM_reduce 109 = .ok (.ifCond .eq 30, 3) := by decide +kernel
theorem dM_reduce_112 : decode cM_reduce 112 = .ok (.aload_n 0, 1) := by decide +kernel
theorem dM_reduce_113 : decode cM_reduce 113 = .ok (.iload 4, 2) := by decide +kernel
theorem dM_reduce_115 : decode cM_reduce 115 = .ok (.iload_n 2, 1) := by decide +kernel
theorem dM_reduce_116 : decode cM_reduce 116 = .ok (.iconst 0, 1) := by decide +kernel
theorem dM_reduce_117 : decode cM_reduce 117 = .ok (.invokevirtual 412, 3) := by decide +kernel
theorem dM_reduce_120 : decode cM_reduce 120 = .ok (.ifCond .ne 14, 3) := by decide +kernel
theorem dM_reduce_123 : decode cM_reduce 123 = .ok (.aload_n 0, 1) := by decide +kernel
theorem dM_reduce_124 : decode cM_reduce 124 = .ok (.iload 4, 2) := by decide +kernel
theorem dM_reduce_126 : decode cM_reduce 126 = .ok (.iload_n 2, 1) := by decide +kernel
theorem dM_reduce_127 : decode cM_reduce 127 = .ok (.iconst 1, 1) := by decide +kernel
theorem dM_reduce_128 : decode cM_reduce 128 = .ok (.invokevirtual 412, 3) := by decide +kernel
theorem dM_reduce_131 : decode cM_reduce 131 = .ok (.ifCond .eq 8, 3) := by decide +kernel
theorem dM_reduce_134 : decode cM_reduce 134 = .ok (.iload 4, 2) := by decide +kernel
theorem dM_reduce_136 : decode cM_reduce 136 = .ok (.goto 4, 3) := by decide +kernel
theorem dM_reduce_139 : decode cM_reduce 139 = .ok (.iload_n 3, 1) := by decide +kernel
theorem dM_reduce_140 : decode cM_reduce 140 = .ok (.istore_n 3, 1) := by decide +kernel
theorem dM_reduce_141 : decode cM_reduce 141 = .ok (.iinc 4 (-1), 3) := by decide +kernel
theorem dM_reduce_144 : decode cM_reduce 144 = .ok (.goto (-77), 3) := by decide +kernel
theorem dM_reduce_147 : decode cM_reduce 147 = .ok (.iload_n 3, 1) := by decide +kernel
theorem dM_reduce_148 : decode cM_reduce 148 = .ok (.ifCond .lt 34, 3) := by decide +kernel
theorem dM_reduce_151 : decode cM_reduce 151 = .ok (.aload_n 0, 1) := by decide +kernel
theorem dM_reduce_152 : decode cM_reduce 152 = .ok (.getfield 115, 3) := by decide +kernel
theorem dM_reduce_155 : decode cM_reduce 155 = .ok (.iload_n 2, 1) := by decide +kernel
theorem dM_reduce_156 : decode cM_reduce 156 = .ok (.aload_n 0, 1) := by decide +kernel
theorem dM_reduce_157 : decode cM_reduce 157 = .ok (.getfield 115, 3) := by decide +kernel
theorem dM_reduce_160 : decode cM_reduce 160 = .ok (.iload_n 3, 1) := by decide +kernel
theorem dM_reduce_161 : decode cM_reduce 161 = .ok (.iaload, 1) := by decide +kernel
theorem dM_reduce_162 : decode cM_reduce 162 = .ok (.aload_n 0, 1) := by decide +kernel
theorem dM_reduce_163 : decode cM_reduce 163 = .ok (.iload_n 3, 1) := by decide +kernel
theorem dM_reduce_164 : decode cM_reduce 164 = .ok (.iload_n 2, 1) := by decide +kernel
theorem dM_reduce_165 : decode cM_reduce 165 = .ok (.iconst 1, 1) := by decide +kernel
theorem dM_reduce_166 : decode cM_reduce 166 = .ok (.invokevirtual 412, 3) := by decide +kernel
theorem dM_reduce_169 : decode cM_reduce 169 = .ok (.ifCond .eq 7, 3) := by decide +kernel
theorem dM_reduce_172 : decode cM_reduce 172 = .ok (.iconst 1, 1) := by decide +kernel
theorem dM_reduce_173 : decode cM_reduce 173 = .ok (.goto 4, 3) := by decide +kernel
theorem dM_reduce_176 : decode cM_reduce 176 = .ok (.iconst 0, 1) := by decide +kernel
theorem dM_reduce_177 : decode cM_reduce 177 = .ok (.ixor, 1) := by decide +kernel
theorem dM_reduce_178 : decode cM_reduce 178 = .ok (.iastore, 1) := by decide +kernel
theorem dM_reduce_179 : decode cM_reduce 179 = .ok (.goto 66, 3) := by decide +kernel
theorem dM_reduce_182 : decode cM_reduce 182 = .ok (.aload_n 0, 1) := by decide +kernel
theorem dM_reduce_183 : decode cM_reduce 183 = .ok (.getfield 109, 3) := by decide +kernel
theorem dM_reduce_186 : decode cM_reduce 186 = .ok (.iload_n 2, 1) := by decide +kernel
theorem dM_reduce_187 : decode cM_reduce 187 = .ok (.baload, 1) := by decide +kernel
theorem dM_reduce_188 : decode cM_reduce 188 = .ok (.ifCond .eq 57, 3) := by decide +kernel
theorem dM_reduce_191 : decode cM_reduce 191 = .ok (.aload_n 0, 1) := by decide +kernel
theorem dM_reduce_192 : decode cM_reduce 192 = .ok (.getfield 115, 3) := by decide +kernel
theorem dM_reduce_195 : decode cM_reduce 195 = .ok (.iload_n 2, 1) := by decide +kernel
theorem dM_reduce_196 : decode cM_reduce 196 = .ok (.aload_n 0, 1) := by decide +kernel
theorem dM_reduce_197 : decode cM_reduce 197 = .ok (.aload_n 0, 1) := by decide +kernel
theorem dM_reduce_198 : decode cM_reduce 198 = .ok (.getfield 115, 3) := by decide +kernel
theorem dM_reduce_201 : decode cM_reduce 201 = .ok (.aload_n 0, 1) := by decide +kernel
theorem dM_reduce_202 : decode cM_reduce 202 = .ok (.getfield 94, 3) := by decide +kernel
theorem dM_reduce_205 : decode cM_reduce 205 = .ok (.iload_n 1, 1) := by decide +kernel
theorem dM_reduce_206 : decode cM_reduce 206 = .ok (.iaload, 1) := by decide +kernel
theorem dM_reduce_207 : decode cM_reduce 207 = .ok (.iconst 2, 1) := by decide +kernel
theorem dM_reduce_208 : decode cM_reduce 208 = .ok (.idiv, 1) := by decide +kernel
theorem dM_reduce_209 : decode cM_reduce 209 = .ok (.iaload, 1) := by decide +kernel
theorem dM_reduce_210 : decode cM_reduce 210 = .ok (.aload_n 0, 1) := by decide +kernel
theorem dM_reduce_211 : decode cM_reduce 211 = .ok (.getfield 94, 3) := by decide +kernel
theorem dM_reduce_214 : decode cM_reduce 214 = .ok (.iload_n 1, 1) := by decide +kernel
theorem dM_reduce_215 : decode cM_reduce 215 = .ok (.iaload, 1) := by decide +kernel
theorem dM_reduce_216 : decode cM_reduce 216 = .ok (.iconst 1, 1) := by decide +kernel
theorem dM_reduce_217 : decode cM_reduce 217 = .ok (.iand, 1) := by decide +kernel
theorem dM_reduce_218 : decode cM_reduce 218 = .ok (.ixor, 1) := by decide +kernel
theorem dM_reduce_219 : decode cM_reduce 219 = .ok (.aload_n 0, 1) := by decide +kernel
theorem dM_reduce_220 : decode cM_reduce 220 = .ok (.getfield 115, 3) := by decide +kernel
theorem dM_reduce_223 : decode cM_reduce 223 = .ok (.aload_n 0, 1) := by decide +kernel
theorem dM_reduce_224 : decode cM_reduce 224 = .ok (.getfield 97, 3) := by decide +kernel
theorem dM_reduce_227 : decode cM_reduce 227 = .ok (.iload_n 1, 1) := by decide +kernel
theorem dM_reduce_228 : decode cM_reduce 228 = .ok (.iaload, 1) := by decide +kernel
theorem dM_reduce_229 : decode cM_reduce 229 = .ok (.iconst 2, 1) := by decide +kernel
theorem dM_reduce_230 : decode cM_reduce 230 = .ok (.idiv, 1) := by decide +kernel
theorem dM_reduce_231 : decode cM_reduce 231 = .ok (.iaload, 1) := by decide +kernel
theorem dM_reduce_232 : decode cM_reduce 232 = .ok (.aload_n 0, 1) := by decide +kernel
theorem dM_reduce_233 : decode cM_reduce 233 = .ok (.getfield 97, 3) := by decide +kernel
theorem dM_reduce_236 : decode cM_reduce 236 = .ok (.iload_n 1, 1) := by decide +kernel
theorem dM_reduce_237 : decode cM_reduce 237 = .ok (.iaload, 1) := by decide +kernel
theorem dM_reduce_238 : decode cM_reduce 238 = .ok (.iconst 1, 1) := by decide +kernel
theorem dM_reduce_239 : decode cM_reduce 239 = .ok (.iand, 1) := by decide +kernel
theorem dM_reduce_240 : decode cM_reduce 240 = .ok (.ixor, 1) := by decide +kernel
theorem dM_reduce_241 : decode cM_reduce 241 = .ok (.invokevirtual 319, 3) := by decide +kernel
theorem dM_reduce_244 : decode cM_reduce 244 = .ok (.iastore, 1) := by decide +kernel
theorem dM_reduce_245 : decode cM_reduce 245 = .ok (.iinc 1 1, 3) := by decide +kernel
theorem dM_reduce_248 : decode cM_reduce 248 = .ok (.goto (-203), 3) := by decide +kernel
theorem dM_reduce_251 : decode cM_reduce 251 = .ok (.aload_n 0, 1) := by decide +kernel
theorem dM_reduce_252 : decode cM_reduce 252 = .ok (.invokevirtual 401, 3) := by decide +kernel
theorem dM_reduce_255 : decode cM_reduce 255 = .ok (.ireturn, 1) := by decide +kernel
theorem wv_2465 : Cond.methodLink "CellForgeModel" 412 (⟨"CellForgeModel", "agree", "(IIZ)Z"⟩ : MethodName) ∈ cfB := cf_in 2465 (by decide +kernel) rfl
set_option maxRecDepth 100000 in
theorem wv_2468 : Cond.code (⟨"CellForgeModel", "agree", "(IIZ)Z"⟩ : MethodName) prog_14_method_47_code 9 (Option.some Jvm.ClassFile.FieldType.boolean) ∈ cfB := List.mem_filter.mpr ⟨List.mem_append_right _ (List.mem_append_right _ (List.mem_append_right _ (List.mem_append_right _ (List.mem_append_right _ (List.mem_append_right _ (List.mem_append_right _ (List.mem_append_right _ (List.mem_append_right _ (List.mem_append_right _ (List.mem_append_left _ (List.mem_of_getElem? (i := 152) rfl))))))))))), rfl⟩
theorem wv_2467 : Cond.instanceMethod (⟨"CellForgeModel", "agree", "(IIZ)Z"⟩ : MethodName) ∈ cfB := cf_in 2467 (by decide +kernel) rfl
theorem wv_97 : Cond.selects "CellForgeModel" (⟨"CellForgeModel", "agree", "(IIZ)Z"⟩ : MethodName) (⟨"CellForgeModel", "agree", "(IIZ)Z"⟩ : MethodName) ∈ cfB := cf_in 97 (by decide +kernel) rfl
theorem wv_2460 : Cond.methodLink "CellForgeModel" 409 (⟨"CellForgeModel", "reckon", "()V"⟩ : MethodName) ∈ cfB := cf_in 2460 (by decide +kernel) rfl
set_option maxRecDepth 100000 in
theorem wv_2463 : Cond.code (⟨"CellForgeModel", "reckon", "()V"⟩ : MethodName) prog_14_method_46_code 4 (Option.none : Option Jvm.ClassFile.FieldType) ∈ cfB := List.mem_filter.mpr ⟨List.mem_append_right _ (List.mem_append_right _ (List.mem_append_right _ (List.mem_append_right _ (List.mem_append_right _ (List.mem_append_right _ (List.mem_append_right _ (List.mem_append_right _ (List.mem_append_right _ (List.mem_append_right _ (List.mem_append_left _ (List.mem_of_getElem? (i := 147) rfl))))))))))), rfl⟩
theorem wv_2462 : Cond.instanceMethod (⟨"CellForgeModel", "reckon", "()V"⟩ : MethodName) ∈ cfB := cf_in 2462 (by decide +kernel) rfl
theorem wv_96 : Cond.selects "CellForgeModel" (⟨"CellForgeModel", "reckon", "()V"⟩ : MethodName) (⟨"CellForgeModel", "reckon", "()V"⟩ : MethodName) ∈ cfB := cf_in 96 (by decide +kernel) rfl
def yM_join : MethodName := ⟨"CellForgeModel", "join", "(II)I"⟩
abbrev cM_join : ByteArray := prog_14_method_49_code
theorem dM_join_0 : decode cM_join 0 = .ok (.iconst 0, 1) := by decide +kernel
theorem dM_join_1 : decode cM_join 1 = .ok (.istore_n 3, 1) := by decide +kernel
theorem dM_join_2 : decode cM_join 2 = .ok (.iconst 0, 1) := by decide +kernel
theorem dM_join_3 : decode cM_join 3 = .ok (.istore 4, 2) := by decide +kernel
theorem dM_join_5 : decode cM_join 5 = .ok (.iconst 0, 1) := by decide +kernel
theorem dM_join_6 : decode cM_join 6 = .ok (.istore 5, 2) := by decide +kernel
theorem dM_join_8 : decode cM_join 8 = .ok (.iload_n 3, 1) := by decide +kernel
theorem dM_join_9 : decode cM_join 9 = .ok (.aload_n 0, 1) := by decide +kernel
theorem dM_join_10 : decode cM_join 10 = .ok (.getfield 135, 3) := by decide +kernel
theorem dM_join_13 : decode cM_join 13 = .ok (.iload_n 1, 1) := by decide +kernel
theorem dM_join_14 : decode cM_join 14 = .ok (.iaload, 1) := by decide +kernel
theorem dM_join_15 : decode cM_join 15 = .ok (.if_icmp .lt 14, 3) := by decide +kernel
theorem dM_join_18 : decode cM_join 18 = .ok (.iload 4, 2) := by decide +kernel
theorem dM_join_20 : decode cM_join 20 = .ok (.aload_n 0, 1) := by decide +kernel
theorem dM_join_21 : decode cM_join 21 = .ok (.getfield 135, 3) := by decide +kernel
theorem dM_join_24 : decode cM_join 24 = .ok (.iload_n 2, 1) := by decide +kernel
theorem dM_join_25 : decode cM_join 25 = .ok (.iaload, 1) := by decide +kernel
theorem dM_join_26 : decode cM_join 26 = .ok (.if_icmp .ge 121, 3) := by decide +kernel
theorem dM_join_29 : decode cM_join 29 = .ok (.iload_n 3, 1) := by decide +kernel
theorem dM_join_30 : decode cM_join 30 = .ok (.aload_n 0, 1) := by decide +kernel
theorem dM_join_31 : decode cM_join 31 = .ok (.getfield 135, 3) := by decide +kernel
theorem dM_join_34 : decode cM_join 34 = .ok (.iload_n 1, 1) := by decide +kernel
theorem dM_join_35 : decode cM_join 35 = .ok (.iaload, 1) := by decide +kernel
theorem dM_join_36 : decode cM_join 36 = .ok (.if_icmp .ge 16, 3) := by decide +kernel
theorem dM_join_39 : decode cM_join 39 = .ok (.aload_n 0, 1) := by decide +kernel
theorem dM_join_40 : decode cM_join 40 = .ok (.getfield 131, 3) := by decide +kernel
theorem dM_join_43 : decode cM_join 43 = .ok (.iconst 5, 1) := by decide +kernel
theorem dM_join_44 : decode cM_join 44 = .ok (.iload_n 1, 1) := by decide +kernel
theorem dM_join_45 : decode cM_join 45 = .ok (.imul, 1) := by decide +kernel
theorem dM_join_46 : decode cM_join 46 = .ok (.iload_n 3, 1) := by decide +kernel
theorem dM_join_47 : decode cM_join 47 = .ok (.iadd, 1) := by decide +kernel
theorem dM_join_48 : decode cM_join 48 = .ok (.iaload, 1) := by decide +kernel
theorem dM_join_49 : decode cM_join 49 = .ok (.goto 6, 3) := by decide +kernel
theorem dM_join_52 : decode cM_join 52 = .ok (.sipush 999, 3) := by decide +kernel
theorem dM_join_55 : decode cM_join 55 = .ok (.istore 6, 2) := by decide +kernel
theorem dM_join_57 : decode cM_join 57 = .ok (.iload 4, 2) := by decide +kernel
theorem dM_join_59 : decode cM_join 59 = .ok (.aload_n 0, 1) := by decide +kernel
theorem dM_join_60 : decode cM_join 60 = .ok (.getfield 135, 3) := by decide +kernel
theorem dM_join_63 : decode cM_join 63 = .ok (.iload_n 2, 1) := by decide +kernel
theorem dM_join_64 : decode cM_join 64 = .ok (.iaload, 1) := by decide +kernel
theorem dM_join_65 : decode cM_join 65 = .ok (.if_icmp .ge 17, 3) := by decide +kernel
theorem dM_join_68 : decode cM_join 68 = .ok (.aload_n 0, 1) := by decide +kernel
theorem dM_join_69 : decode cM_join 69 = .ok (.getfield 131, 3) := by decide +kernel
theorem dM_join_72 : decode cM_join 72 = .ok (.iconst 5, 1) := by decide +kernel
theorem dM_join_73 : decode cM_join 73 = .ok (.iload_n 2, 1) := by decide +kernel
theorem dM_join_74 : decode cM_join 74 = .ok (.imul, 1) := by decide +kernel
theorem dM_join_75 : decode cM_join 75 = .ok (.iload 4, 2) := by decide +kernel
theorem dM_join_77 : decode cM_join 77 = .ok (.iadd, 1) := by decide +kernel
theorem dM_join_78 : decode cM_join 78 = .ok (.iaload, 1) := by decide +kernel
theorem dM_join_79 : decode cM_join 79 = .ok (.goto 6, 3) := by decide +kernel
theorem dM_join_82 : decode cM_join 82 = .ok (.sipush 999, 3) := by decide +kernel
theorem dM_join_85 : decode cM_join 85 = .ok (.istore 7, 2) := by decide +kernel
theorem dM_join_87 : decode cM_join 87 = .ok (.aload_n 0, 1) := by decide +kernel
theorem dM_join_88 : decode cM_join 88 = .ok (.getfield 141, 3) := by decide +kernel
theorem dM_join_91 : decode cM_join 91 = .ok (.iload 5, 2) := by decide +kernel
theorem dM_join_93 : decode cM_join 93 = .ok (.iload 6, 2) := by decide +kernel
theorem dM_join_95 : decode cM_join 95 = .ok (.iload 7, 2) := by decide +kernel
theorem dM_join_97 : decode cM_join 97 = .ok (.if_icmp .ge 8, 3) := by decide +kernel
theorem dM_join_100 : decode cM_join 100 = .ok (.iload 6, 2) := by decide +kernel
theorem dM_join_102 : decode cM_join 102 = .ok (.goto 5, 3) := by decide +kernel
theorem dM_join_105 : decode cM_join 105 = .ok (.iload 7, 2) := by decide +kernel
theorem dM_join_107 : decode cM_join 107 = .ok (.iastore, 1) := by decide +kernel
theorem dM_join_108 : decode cM_join 108 = .ok (.iinc 5 1, 3) := by decide +kernel
theorem dM_join_111 : decode cM_join 111 = .ok (.iload 6, 2) := by decide +kernel
theorem dM_join_113 : decode cM_join 113 = .ok (.iload 7, 2) := by decide +kernel
theorem dM_join_115 : decode cM_join 115 = .ok (.if_icmp .gt 9, 3) := by decide +kernel
theorem dM_join_118 : decode cM_join 118 = .ok (.iload_n 3, 1) := by decide +kernel
theorem dM_join_119 : decode cM_join 119 = .ok (.iconst 1, 1) := by decide +kernel
theorem dM_join_120 : decode cM_join 120 = .ok (.iadd, 1) := by decide +kernel
theorem dM_join_121 : decode cM_join 121 = .ok (.goto 4, 3) := by decide +kernel
theorem dM_join_124 : decode cM_join 124 = .ok (.iload_n 3, 1) := by decide +kernel
theorem dM_join_125 : decode cM_join 125 = .ok (.istore_n 3, 1) := by decide +kernel
theorem dM_join_126 : decode cM_join 126 = .ok (.iload 7, 2) := by decide +kernel
theorem dM_join_128 : decode cM_join 128 = .ok (.iload 6, 2) := by decide +kernel
theorem dM_join_130 : decode cM_join 130 = .ok (.if_icmp .gt 10, 3) := by decide +kernel
theorem dM_join_133 : decode cM_join 133 = .ok (.iload 4, 2) := by decide +kernel
theorem dM_join_135 : decode cM_join 135 = .ok (.iconst 1, 1) := by decide +kernel
theorem dM_join_136 : decode cM_join 136 = .ok (.iadd, 1) := by decide +kernel
theorem dM_join_137 : decode cM_join 137 = .ok (.goto 5, 3) := by decide +kernel
theorem dM_join_140 : decode cM_join 140 = .ok (.iload 4, 2) := by decide +kernel
theorem dM_join_142 : decode cM_join 142 = .ok (.istore 4, 2) := by decide +kernel
theorem dM_join_144 : decode cM_join 144 = .ok (.goto (-136), 3) := by decide +kernel
theorem dM_join_147 : decode cM_join 147 = .ok (.iload 5, 2) := by decide +kernel
theorem dM_join_149 : decode cM_join 149 = .ok (.ireturn, 1) := by decide +kernel
def yM_isPart : MethodName := ⟨"CellForgeModel", "isPart", "(III)Z"⟩
abbrev cM_isPart : ByteArray := prog_14_method_50_code
theorem dM_isPart_0 : decode cM_isPart 0 = .ok (.aload_n 0, 1) := by decide +kernel
theorem dM_isPart_1 : decode cM_isPart 1 = .ok (.getfield 138, 3) := by decide +kernel
theorem dM_isPart_4 : decode cM_isPart 4 = .ok (.iload_n 1, 1) := by decide +kernel
theorem dM_isPart_5 : decode cM_isPart 5 = .ok (.iaload, 1) := by decide +kernel
theorem dM_isPart_6 : decode cM_isPart 6 = .ok (.iload_n 3, 1) := by decide +kernel
theorem dM_isPart_7 : decode cM_isPart 7 = .ok (.iconst (-1), 1) := by decide +kernel
theorem dM_isPart_8 : decode cM_isPart 8 = .ok (.ixor, 1) := by decide +kernel
theorem dM_isPart_9 : decode cM_isPart 9 = .ok (.iand, 1) := by decide +kernel
theorem dM_isPart_10 : decode cM_isPart 10 = .ok (.ifCond .eq 5, 3) := by decide +kernel
theorem dM_isPart_13 : decode cM_isPart 13 = .ok (.iconst 0, 1) := by decide +kernel
theorem dM_isPart_14 : decode cM_isPart 14 = .ok (.ireturn, 1) := by decide +kernel
theorem dM_isPart_15 : decode cM_isPart 15 = .ok (.iconst 0, 1) := by decide +kernel
theorem dM_isPart_16 : decode cM_isPart 16 = .ok (.istore 4, 2) := by decide +kernel
theorem dM_isPart_18 : decode cM_isPart 18 = .ok (.iconst 0, 1) := by decide +kernel
theorem dM_isPart_19 : decode cM_isPart 19 = .ok (.istore 5, 2) := by decide +kernel
theorem dM_isPart_21 : decode cM_isPart 21 = .ok (.iload 5, 2) := by decide +kernel
theorem dM_isPart_23 : decode cM_isPart 23 = .ok (.iload_n 2, 1) := by decide +kernel
theorem dM_isPart_24 : decode cM_isPart 24 = .ok (.if_icmp .ge 52, 3) := by decide +kernel
theorem dM_isPart_27 : decode cM_isPart 27 = .ok (.iload 4, 2) := by decide +kernel
theorem dM_isPart_29 : decode cM_isPart 29 = .ok (.aload_n 0, 1) := by decide +kernel
theorem dM_isPart_30 : decode cM_isPart 30 = .ok (.getfield 135, 3) := by decide +kernel
theorem dM_isPart_33 : decode cM_isPart 33 = .ok (.iload_n 1, 1) := by decide +kernel
theorem dM_isPart_34 : decode cM_isPart 34 = .ok (.iaload, 1) := by decide +kernel
theorem dM_isPart_35 : decode cM_isPart 35 = .ok (.if_icmp .ge 41, 3) := by decide +kernel
theorem dM_isPart_38 : decode cM_isPart 38 = .ok (.aload_n 0, 1) := by decide +kernel
theorem dM_isPart_39 : decode cM_isPart 39 = .ok (.getfield 141, 3) := by decide +kernel
theorem dM_isPart_42 : decode cM_isPart 42 = .ok (.iload 5, 2) := by decide +kernel
theorem dM_isPart_44 : decode cM_isPart 44 = .ok (.iaload, 1) := by decide +kernel
theorem dM_isPart_45 : decode cM_isPart 45 = .ok (.aload_n 0, 1) := by decide +kernel
theorem dM_isPart_46 : decode cM_isPart 46 = .ok (.getfield 131, 3) := by decide +kernel
theorem dM_isPart_49 : decode cM_isPart 49 = .ok (.iconst 5, 1) := by decide +kernel
theorem dM_isPart_50 : decode cM_isPart 50 = .ok (.iload_n 1, 1) := by decide +kernel
theorem dM_isPart_51 : decode cM_isPart 51 = .ok (.imul, 1) := by decide +kernel
theorem dM_isPart_52 : decode cM_isPart 52 = .ok (.iload 4, 2) := by decide +kernel
theorem dM_isPart_54 : decode cM_isPart 54 = .ok (.iadd, 1) := by decide +kernel
theorem dM_isPart_55 : decode cM_isPart 55 = .ok (.iaload, 1) := by decide +kernel
theorem dM_isPart_56 : decode cM_isPart 56 = .ok (.if_icmp .ne 10, 3) := by decide +kernel
theorem dM_isPart_59 : decode cM_isPart 59 = .ok (.iload 4, 2) := by decide +kernel
theorem dM_isPart_61 : decode cM_isPart 61 = .ok (.iconst 1, 1) := by decide +kernel
theorem dM_isPart_62 : decode cM_isPart 62 = .ok (.iadd, 1) := by decide +kernel
theorem dM_isPart_63 : decode cM_isPart 63 = .ok (.goto 5, 3) := by decide +kernel
theorem dM_isPart_66 : decode cM_isPart 66 = .ok (.iload 4, 2) := by decide +kernel
theorem dM_isPart_68 : decode cM_isPart 68 = .ok (.istore 4, 2) := by decide +kernel
theorem dM_isPart_70 : decode cM_isPart 70 = .ok (.iinc 5 1, 3) := by decide +kernel
theorem dM_isPart_73 : decode cM_isPart 73 = .ok (.goto (-52), 3) := by decide +kernel
theorem dM_isPart_76 : decode cM_isPart 76 = .ok (.iload 4, 2) := by decide +kernel
theorem dM_isPart_78 : decode cM_isPart 78 = .ok (.aload_n 0, 1) := by decide +kernel
theorem dM_isPart_79 : decode cM_isPart 79 = .ok (.getfield 135, 3) := by decide +kernel
theorem dM_isPart_82 : decode cM_isPart 82 = .ok (.iload_n 1, 1) := by decide +kernel
theorem dM_isPart_83 : decode cM_isPart 83 = .ok (.iaload, 1) := by decide +kernel
theorem dM_isPart_84 : decode cM_isPart 84 = .ok (.if_icmp .ne 7, 3) := by decide +kernel
theorem dM_isPart_87 : decode cM_isPart 87 = .ok (.iconst 1, 1) := by decide +kernel
theorem dM_isPart_88 : decode cM_isPart 88 = .ok (.goto 4, 3) := by decide +kernel
theorem dM_isPart_91 : decode cM_isPart 91 = .ok (.iconst 0, 1) := by decide +kernel
theorem dM_isPart_92 : decode cM_isPart 92 = .ok (.ireturn, 1) := by decide +kernel
def yM_keepCut : MethodName := ⟨"CellForgeModel", "keepCut", "(III)V"⟩
abbrev cM_keepCut : ByteArray := prog_14_method_51_code
theorem dM_keepCut_0 : decode cM_keepCut 0 = .ok (.sipush 301, 3) := by decide +kernel
theorem dM_keepCut_3 : decode cM_keepCut 3 = .ok (.iload_n 1, 1) := by decide +kernel
theorem dM_keepCut_4 : decode cM_keepCut 4 = .ok (.imul, 1) := by decide +kernel
theorem dM_keepCut_5 : decode cM_keepCut 5 = .ok (.aload_n 0, 1) := by decide +kernel
theorem dM_keepCut_6 : decode cM_keepCut 6 = .ok (.getfield 127, 3) := by decide +kernel
theorem dM_keepCut_9 : decode cM_keepCut 9 = .ok (.iload_n 1, 1) := by decide +kernel
theorem dM_keepCut_10 : decode cM_keepCut 10 = .ok (.iaload, 1) := by decide +kernel
theorem dM_keepCut_11 : decode cM_keepCut 11 = .ok (.iadd, 1) := by decide +kernel
theorem dM_keepCut_12 : decode cM_keepCut 12 = .ok (.istore 4, 2) := by decide +kernel
theorem dM_keepCut_14 : decode cM_keepCut 14 = .ok (.aload_n 0, 1) := by decide +kernel
theorem dM_keepCut_15 : decode cM_keepCut 15 = .ok (.getfield 127, 3) := by decide +kernel
theorem dM_keepCut_18 : decode cM_keepCut 18 = .ok (.iload_n 1, 1) := by decide +kernel
theorem dM_keepCut_19 : decode cM_keepCut 19 = .ok (.dup2, 1) := by decide +kernel
theorem dM_keepCut_20 : decode cM_keepCut 20 = .ok (.iaload, 1) := by decide +kernel
theorem dM_keepCut_21 : decode cM_keepCut 21 = .ok (.iconst 1, 1) := by decide +kernel
theorem dM_keepCut_22 : decode cM_keepCut 22 = .ok (.iadd, 1) := by decide +kernel
theorem dM_keepCut_23 : decode cM_keepCut 23 = .ok (.iastore, 1) := by decide +kernel
theorem dM_keepCut_24 : decode cM_keepCut 24 = .ok (.aload_n 0, 1) := by decide +kernel
theorem dM_keepCut_25 : decode cM_keepCut 25 = .ok (.getfield 135, 3) := by decide +kernel
theorem dM_keepCut_28 : decode cM_keepCut 28 = .ok (.iload 4, 2) := by decide +kernel
theorem dM_keepCut_30 : decode cM_keepCut 30 = .ok (.iload_n 2, 1) := by decide +kernel
theorem dM_keepCut_31 : decode cM_keepCut 31 = .ok (.iastore, 1) := by decide +kernel
theorem dM_keepCut_32 : decode cM_keepCut 32 = .ok (.aload_n 0, 1) := by decide +kernel
theorem dM_keepCut_33 : decode cM_keepCut 33 = .ok (.getfield 138, 3) := by decide +kernel
theorem dM_keepCut_36 : decode cM_keepCut 36 = .ok (.iload 4, 2) := by decide +kernel
theorem dM_keepCut_38 : decode cM_keepCut 38 = .ok (.iload_n 3, 1) := by decide +kernel
theorem dM_keepCut_39 : decode cM_keepCut 39 = .ok (.iastore, 1) := by decide +kernel
theorem dM_keepCut_40 : decode cM_keepCut 40 = .ok (.iconst 0, 1) := by decide +kernel
theorem dM_keepCut_41 : decode cM_keepCut 41 = .ok (.istore 5, 2) := by decide +kernel
theorem dM_keepCut_43 : decode cM_keepCut 43 = .ok (.iload 5, 2) := by decide +kernel
theorem dM_keepCut_45 : decode cM_keepCut 45 = .ok (.iload_n 2, 1) := by decide +kernel
theorem dM_keepCut_46 : decode cM_keepCut 46 = .ok (.if_icmp .ge 28, 3) := by decide +kernel
theorem dM_keepCut_49 : decode cM_keepCut 49 = .ok (.aload_n 0, 1) := by decide +kernel
theorem dM_keepCut_50 : decode cM_keepCut 50 = .ok (.getfield 131, 3) := by decide +kernel
theorem dM_keepCut_53 : decode cM_keepCut 53 = .ok (.iconst 5, 1) := by decide +kernel
theorem dM_keepCut_54 : decode cM_keepCut 54 = .ok (.iload 4, 2) := by decide +kernel
theorem dM_keepCut_56 : decode cM_keepCut 56 = .ok (.imul, 1) := by decide +kernel
theorem dM_keepCut_57 : decode cM_keepCut 57 = .ok (.iload 5, 2) := by decide +kernel
theorem dM_keepCut_59 : decode cM_keepCut 59 = .ok (.iadd, 1) := by decide +kernel
theorem dM_keepCut_60 : decode cM_keepCut 60 = .ok (.aload_n 0, 1) := by decide +kernel
theorem dM_keepCut_61 : decode cM_keepCut 61 = .ok (.getfield 141, 3) := by decide +kernel
theorem dM_keepCut_64 : decode cM_keepCut 64 = .ok (.iload 5, 2) := by decide +kernel
theorem dM_keepCut_66 : decode cM_keepCut 66 = .ok (.iaload, 1) := by decide +kernel
theorem dM_keepCut_67 : decode cM_keepCut 67 = .ok (.iastore, 1) := by decide +kernel
theorem dM_keepCut_68 : decode cM_keepCut 68 = .ok (.iinc 5 1, 3) := by decide +kernel
theorem dM_keepCut_71 : decode cM_keepCut 71 = .ok (.goto (-28), 3) := by decide +kernel
theorem dM_keepCut_74 : decode cM_keepCut 74 = .ok (.return_, 1) := by decide +kernel
def yM_tryCut : MethodName := ⟨"CellForgeModel", "tryCut", "(II)V"⟩
abbrev cM_tryCut : ByteArray := prog_14_method_52_code
theorem dM_tryCut_0 : decode cM_tryCut 0 = .ok (.iconst 0, 1) := by decide +kernel
theorem dM_tryCut_1 : decode cM_tryCut 1 = .ok (.istore_n 3, 1) := by decide +kernel
theorem dM_tryCut_2 : decode cM_tryCut 2 = .ok (.iconst 0, 1) := by decide +kernel
theorem dM_tryCut_3 : decode cM_tryCut 3 = .ok (.istore 4, 2) := by decide +kernel
theorem dM_tryCut_5 : decode cM_tryCut 5 = .ok (.iload 4, 2) := by decide +kernel
theorem dM_tryCut_7 : decode cM_tryCut 7 = .ok (.iload_n 2, 1) := by decide +kernel
theorem dM_tryCut_8 : decode cM_tryCut 8 = .ok (.if_icmp .ge 24, 3) := by decide +kernel
theorem dM_tryCut_11 : decode cM_tryCut 11 = .ok (.iload_n 3, 1) := by decide +kernel
theorem dM_tryCut_12 : decode cM_tryCut 12 = .ok (.iconst 1, 1) := by decide +kernel
theorem dM_tryCut_13 : decode cM_tryCut 13 = .ok (.aload_n 0, 1) := by decide +kernel
theorem dM_tryCut_14 : decode cM_tryCut 14 = .ok (.getfield 141, 3) := by decide +kernel
theorem dM_tryCut_17 : decode cM_tryCut 17 = .ok (.iload 4, 2) := by decide +kernel
theorem dM_tryCut_19 : decode cM_tryCut 19 = .ok (.iaload, 1) := by decide +kernel
theorem dM_tryCut_20 : decode cM_tryCut 20 = .ok (.bipush 32, 2) := by decide +kernel
theorem dM_tryCut_22 : decode cM_tryCut 22 = .ok (.irem, 1) := by decide +kernel
theorem dM_tryCut_23 : decode cM_tryCut 23 = .ok (.ishl, 1) := by decide +kernel
theorem dM_tryCut_24 : decode cM_tryCut 24 = .ok (.ior, 1) := by decide +kernel
theorem dM_tryCut_25 : decode cM_tryCut 25 = .ok (.istore_n 3, 1) := by decide +kernel
theorem dM_tryCut_26 : decode cM_tryCut 26 = .ok (.iinc 4 1, 3) := by decide +kernel
theorem dM_tryCut_29 : decode cM_tryCut 29 = .ok (.goto (-24), 3) := by decide +kernel
theorem dM_tryCut_32 : decode cM_tryCut 32 = .ok (.sipush 301, 3) := by decide +kernel
theorem dM_tryCut_35 : decode cM_tryCut 35 = .ok (.iload_n 1, 1) := by decide +kernel
theorem dM_tryCut_36 : decode cM_tryCut 36 = .ok (.imul, 1) := by decide +kernel
theorem dM_tryCut_37 : decode cM_tryCut 37 = .ok (.istore 4, 2) := by decide +kernel
theorem dM_tryCut_39 : decode cM_tryCut 39 = .ok (.iload 4, 2) := by decide +kernel
theorem dM_tryCut_41 : decode cM_tryCut 41 = .ok (.sipush 301, 3) := by decide +kernel
theorem dM_tryCut_44 : decode cM_tryCut 44 = .ok (.iload_n 1, 1) := by decide +kernel
theorem dM_tryCut_45 : decode cM_tryCut 45 = .ok (.imul, 1) := by decide +kernel
theorem dM_tryCut_46 : decode cM_tryCut 46 = .ok (.aload_n 0, 1) := by decide +kernel
theorem dM_tryCut_47 : decode cM_tryCut 47 = .ok (.getfield 127, 3) := by decide +kernel
theorem dM_tryCut_50 : decode cM_tryCut 50 = .ok (.iload_n 1, 1) := by decide +kernel
theorem dM_tryCut_51 : decode cM_tryCut 51 = .ok (.iaload, 1) := by decide +kernel
theorem dM_tryCut_52 : decode cM_tryCut 52 = .ok (.iadd, 1) := by decide +kernel
theorem dM_tryCut_53 : decode cM_tryCut 53 = .ok (.if_icmp .ge 21, 3) := by decide +kernel
theorem dM_tryCut_56 : decode cM_tryCut 56 = .ok (.aload_n 0, 1) := by decide +kernel
theorem dM_tryCut_57 : decode cM_tryCut 57 = .ok (.iload 4, 2) := by decide +kernel
theorem dM_tryCut_59 : decode cM_tryCut 59 = .ok (.iload_n 2, 1) := by decide +kernel
theorem dM_tryCut_60 : decode cM_tryCut 60 = .ok (.iload_n 3, 1) := by decide +kernel
theorem dM_tryCut_61 : decode cM_tryCut 61 = .ok (.invokevirtual 416, 3) := by decide +kernel
theorem dM_tryCut_64 : decode cM_tryCut 64 = .ok (.ifCond .eq 4, 3) := by decide +kernel
theorem dM_tryCut_67 : decode cM_tryCut 67 = .ok (.return_, 1) := by decide +kernel
theorem dM_tryCut_68 : decode cM_tryCut 68 = .ok (.iinc 4 1, 3) := by decide +kernel
theorem dM_tryCut_71 : decode cM_tryCut 71 = .ok (.goto (-32), 3) := by decide +kernel
theorem dM_tryCut_74 : decode cM_tryCut 74 = .ok (.aload_n 0, 1) := by decide +kernel
theorem dM_tryCut_75 : decode cM_tryCut 75 = .ok (.getfield 127, 3) := by decide +kernel
theorem dM_tryCut_78 : decode cM_tryCut 78 = .ok (.iload_n 1, 1) := by decide +kernel
theorem dM_tryCut_79 : decode cM_tryCut 79 = .ok (.iaload, 1) := by decide +kernel
theorem dM_tryCut_80 : decode cM_tryCut 80 = .ok (.sipush 300, 3) := by decide +kernel
theorem dM_tryCut_83 : decode cM_tryCut 83 = .ok (.if_icmp .ne 9, 3) := by decide +kernel
theorem dM_tryCut_86 : decode cM_tryCut 86 = .ok (.aload_n 0, 1) := by decide +kernel
theorem dM_tryCut_87 : decode cM_tryCut 87 = .ok (.iconst 1, 1) := by decide +kernel
theorem dM_tryCut_88 : decode cM_tryCut 88 = .ok (.putfield 312, 3) := by decide +kernel
theorem dM_tryCut_91 : decode cM_tryCut 91 = .ok (.return_, 1) := by decide +kernel
theorem dM_tryCut_92 : decode cM_tryCut 92 = .ok (.aload_n 0, 1) := by decide +kernel
theorem dM_tryCut_93 : decode cM_tryCut 93 = .ok (.iload_n 1, 1) := by decide +kernel
theorem dM_tryCut_94 : decode cM_tryCut 94 = .ok (.iload_n 2, 1) := by decide +kernel
theorem dM_tryCut_95 : decode cM_tryCut 95 = .ok (.iload_n 3, 1) := by decide +kernel
theorem dM_tryCut_96 : decode cM_tryCut 96 = .ok (.invokevirtual 419, 3) := by decide +kernel
theorem dM_tryCut_99 : decode cM_tryCut 99 = .ok (.return_, 1) := by decide +kernel
theorem wv_2502 : Cond.methodLink "CellForgeModel" 419 (⟨"CellForgeModel", "keepCut", "(III)V"⟩ : MethodName) ∈ cfB := cf_in 2502 (by decide +kernel) rfl
theorem wv_2505 : Cond.code (⟨"CellForgeModel", "keepCut", "(III)V"⟩ : MethodName) prog_14_method_51_code 6 (Option.none : Option Jvm.ClassFile.FieldType) ∈ cfB := cf_in 2505 (by decide +kernel) rfl
theorem wv_2504 : Cond.instanceMethod (⟨"CellForgeModel", "keepCut", "(III)V"⟩ : MethodName) ∈ cfB := cf_in 2504 (by decide +kernel) rfl
theorem wv_105 : Cond.selects "CellForgeModel" (⟨"CellForgeModel", "keepCut", "(III)V"⟩ : MethodName) (⟨"CellForgeModel", "keepCut", "(III)V"⟩ : MethodName) ∈ cfB := cf_in 105 (by decide +kernel) rfl
theorem wv_2498 : Cond.methodLink "CellForgeModel" 416 (⟨"CellForgeModel", "isPart", "(III)Z"⟩ : MethodName) ∈ cfB := cf_in 2498 (by decide +kernel) rfl
theorem wv_2501 : Cond.code (⟨"CellForgeModel", "isPart", "(III)Z"⟩ : MethodName) prog_14_method_50_code 6 (Option.some Jvm.ClassFile.FieldType.boolean) ∈ cfB := cf_in 2501 (by decide +kernel) rfl
theorem wv_2500 : Cond.instanceMethod (⟨"CellForgeModel", "isPart", "(III)Z"⟩ : MethodName) ∈ cfB := cf_in 2500 (by decide +kernel) rfl
theorem wv_104 : Cond.selects "CellForgeModel" (⟨"CellForgeModel", "isPart", "(III)Z"⟩ : MethodName) (⟨"CellForgeModel", "isPart", "(III)Z"⟩ : MethodName) ∈ cfB := cf_in 104 (by decide +kernel) rfl
def yM_alone : MethodName := ⟨"CellForgeModel", "alone", "(I)V"⟩
abbrev cM_alone : ByteArray := prog_14_method_53_code
theorem dM_alone_0 : decode cM_alone 0 = .ok (.iload_n 1, 1) := by decide +kernel
theorem dM_alone_1 : decode cM_alone 1 = .ok (.ifCond .le 10, 3) := by decide +kernel
theorem dM_alone_4 : decode cM_alone 4 = .ok (.aload_n 0, 1) := by decide +kernel
theorem dM_alone_5 : decode cM_alone 5 = .ok (.getfield 141, 3) := by decide +kernel
theorem dM_alone_8 : decode cM_alone 8 = .ok (.iconst 0, 1) := by decide +kernel
theorem dM_alone_9 : decode cM_alone 9 = .ok (.iload_n 1, 1) := by decide +kernel
theorem dM_alone_10 : decode cM_alone 10 = .ok (.iastore, 1) := by decide +kernel
theorem dM_alone_11 : decode cM_alone 11 = .ok (.sipush 301, 3) := by decide +kernel
theorem dM_alone_14 : decode cM_alone 14 = .ok (.iload_n 1, 1) := by decide +kernel
theorem dM_alone_15 : decode cM_alone 15 = .ok (.imul, 1) := by decide +kernel
theorem dM_alone_16 : decode cM_alone 16 = .ok (.aload_n 0, 1) := by decide +kernel
theorem dM_alone_17 : decode cM_alone 17 = .ok (.getfield 127, 3) := by decide +kernel
theorem dM_alone_20 : decode cM_alone 20 = .ok (.iload_n 1, 1) := by decide +kernel
theorem dM_alone_21 : decode cM_alone 21 = .ok (.iaload, 1) := by decide +kernel
theorem dM_alone_22 : decode cM_alone 22 = .ok (.iadd, 1) := by decide +kernel
theorem dM_alone_23 : decode cM_alone 23 = .ok (.istore_n 2, 1) := by decide +kernel
theorem dM_alone_24 : decode cM_alone 24 = .ok (.aload_n 0, 1) := by decide +kernel
theorem dM_alone_25 : decode cM_alone 25 = .ok (.getfield 135, 3) := by decide +kernel
theorem dM_alone_28 : decode cM_alone 28 = .ok (.iload_n 2, 1) := by decide +kernel
theorem dM_alone_29 : decode cM_alone 29 = .ok (.iload_n 1, 1) := by decide +kernel
theorem dM_alone_30 : decode cM_alone 30 = .ok (.ifCond .le 7, 3) := by decide +kernel
theorem dM_alone_33 : decode cM_alone 33 = .ok (.iconst 1, 1) := by decide +kernel
theorem dM_alone_34 : decode cM_alone 34 = .ok (.goto 4, 3) := by decide +kernel
theorem dM_alone_37 : decode cM_alone 37 = .ok (.iconst 0, 1) := by decide +kernel
theorem dM_alone_38 : decode cM_alone 38 = .ok (.iastore, 1) := by decide +kernel
theorem dM_alone_39 : decode cM_alone 39 = .ok (.aload_n 0, 1) := by decide +kernel
theorem dM_alone_40 : decode cM_alone 40 = .ok (.getfield 131, 3) := by decide +kernel
theorem dM_alone_43 : decode cM_alone 43 = .ok (.iconst 5, 1) := by decide +kernel
theorem dM_alone_44 : decode cM_alone 44 = .ok (.iload_n 2, 1) := by decide +kernel
theorem dM_alone_45 : decode cM_alone 45 = .ok (.imul, 1) := by decide +kernel
theorem dM_alone_46 : decode cM_alone 46 = .ok (.iload_n 1, 1) := by decide +kernel
theorem dM_alone_47 : decode cM_alone 47 = .ok (.iastore, 1) := by decide +kernel
theorem dM_alone_48 : decode cM_alone 48 = .ok (.aload_n 0, 1) := by decide +kernel
theorem dM_alone_49 : decode cM_alone 49 = .ok (.getfield 138, 3) := by decide +kernel
theorem dM_alone_52 : decode cM_alone 52 = .ok (.iload_n 2, 1) := by decide +kernel
theorem dM_alone_53 : decode cM_alone 53 = .ok (.iload_n 1, 1) := by decide +kernel
theorem dM_alone_54 : decode cM_alone 54 = .ok (.ifCond .le 12, 3) := by decide +kernel
theorem dM_alone_57 : decode cM_alone 57 = .ok (.iconst 1, 1) := by decide +kernel
theorem dM_alone_58 : decode cM_alone 58 = .ok (.iload_n 1, 1) := by decide +kernel
theorem dM_alone_59 : decode cM_alone 59 = .ok (.bipush 32, 2) := by decide +kernel
theorem dM_alone_61 : decode cM_alone 61 = .ok (.irem, 1) := by decide +kernel
theorem dM_alone_62 : decode cM_alone 62 = .ok (.ishl, 1) := by decide +kernel
theorem dM_alone_63 : decode cM_alone 63 = .ok (.goto 4, 3) := by decide +kernel
theorem dM_alone_66 : decode cM_alone 66 = .ok (.iconst 0, 1) := by decide +kernel
theorem dM_alone_67 : decode cM_alone 67 = .ok (.iastore, 1) := by decide +kernel
theorem dM_alone_68 : decode cM_alone 68 = .ok (.return_, 1) := by decide +kernel
def yM_cut : MethodName := ⟨"CellForgeModel", "cut", "(II)V"⟩
abbrev cM_cut : ByteArray := prog_14_method_54_code
theorem dM_cut_0 : decode cM_cut 0 = .ok (.aload_n 0, 1) := by decide +kernel
theorem dM_cut_1 : decode cM_cut 1 = .ok (.invokevirtual 371, 3) := by decide +kernel
theorem dM_cut_4 : decode cM_cut 4 = .ok (.iload_n 1, 1) := by decide +kernel
theorem dM_cut_5 : decode cM_cut 5 = .ok (.iadd, 1) := by decide +kernel
theorem dM_cut_6 : decode cM_cut 6 = .ok (.istore_n 3, 1) := by decide +kernel
theorem dM_cut_7 : decode cM_cut 7 = .ok (.aload_n 0, 1) := by decide +kernel
theorem dM_cut_8 : decode cM_cut 8 = .ok (.getfield 94, 3) := by decide +kernel
theorem dM_cut_11 : decode cM_cut 11 = .ok (.iload_n 1, 1) := by decide +kernel
theorem dM_cut_12 : decode cM_cut 12 = .ok (.iaload, 1) := by decide +kernel
theorem dM_cut_13 : decode cM_cut 13 = .ok (.iconst 2, 1) := by decide +kernel
theorem dM_cut_14 : decode cM_cut 14 = .ok (.idiv, 1) := by decide +kernel
theorem dM_cut_15 : decode cM_cut 15 = .ok (.istore 4, 2) := by decide +kernel
theorem dM_cut_17 : decode cM_cut 17 = .ok (.aload_n 0, 1) := by decide +kernel
theorem dM_cut_18 : decode cM_cut 18 = .ok (.getfield 97, 3) := by decide +kernel
theorem dM_cut_21 : decode cM_cut 21 = .ok (.iload_n 1, 1) := by decide +kernel
theorem dM_cut_22 : decode cM_cut 22 = .ok (.iaload, 1) := by decide +kernel
theorem dM_cut_23 : decode cM_cut 23 = .ok (.iconst 2, 1) := by decide +kernel
theorem dM_cut_24 : decode cM_cut 24 = .ok (.idiv, 1) := by decide +kernel
theorem dM_cut_25 : decode cM_cut 25 = .ok (.istore 5, 2) := by decide +kernel
theorem dM_cut_27 : decode cM_cut 27 = .ok (.aload_n 0, 1) := by decide +kernel
theorem dM_cut_28 : decode cM_cut 28 = .ok (.getfield 127, 3) := by decide +kernel
theorem dM_cut_31 : decode cM_cut 31 = .ok (.iload_n 3, 1) := by decide +kernel
theorem dM_cut_32 : decode cM_cut 32 = .ok (.iconst 0, 1) := by decide +kernel
theorem dM_cut_33 : decode cM_cut 33 = .ok (.iastore, 1) := by decide +kernel
theorem dM_cut_34 : decode cM_cut 34 = .ok (.iconst 0, 1) := by decide +kernel
theorem dM_cut_35 : decode cM_cut 35 = .ok (.istore 6, 2) := by decide +kernel
theorem dM_cut_37 : decode cM_cut 37 = .ok (.iload 6, 2) := by decide +kernel
theorem dM_cut_39 : decode cM_cut 39 = .ok (.iload_n 2, 1) := by decide +kernel
theorem dM_cut_40 : decode cM_cut 40 = .ok (.if_icmp .gt 172, 3) := by decide +kernel
theorem dM_cut_43 : decode cM_cut 43 = .ok (.sipush 301, 3) := by decide +kernel
theorem dM_cut_46 : decode cM_cut 46 = .ok (.iload 4, 2) := by decide +kernel
theorem dM_cut_48 : decode cM_cut 48 = .ok (.imul, 1) := by decide +kernel
theorem dM_cut_49 : decode cM_cut 49 = .ok (.istore 7, 2) := by decide +kernel
theorem dM_cut_51 : decode cM_cut 51 = .ok (.iload 7, 2) := by decide +kernel
theorem dM_cut_53 : decode cM_cut 53 = .ok (.sipush 301, 3) := by decide +kernel
theorem dM_cut_56 : decode cM_cut 56 = .ok (.iload 4, 2) := by decide +kernel
theorem dM_cut_58 : decode cM_cut 58 = .ok (.imul, 1) := by decide +kernel
theorem dM_cut_59 : decode cM_cut 59 = .ok (.aload_n 0, 1) := by decide +kernel
theorem dM_cut_60 : decode cM_cut 60 = .ok (.getfield 127, 3) := by decide +kernel
theorem dM_cut_63 : decode cM_cut 63 = .ok (.iload 4, 2) := by decide +kernel
theorem dM_cut_65 : decode cM_cut 65 = .ok (.iaload, 1) := by decide +kernel
theorem dM_cut_66 : decode cM_cut 66 = .ok (.iadd, 1) := by decide +kernel
theorem dM_cut_67 : decode cM_cut 67 = .ok (.if_icmp .gt 139, 3) := by decide +kernel
theorem dM_cut_70 : decode cM_cut 70 = .ok (.aload_n 0, 1) := by decide +kernel
theorem dM_cut_71 : decode cM_cut 71 = .ok (.getfield 312, 3) := by decide +kernel
theorem dM_cut_74 : decode cM_cut 74 = .ok (.ifCond .ne 132, 3) := by decide +kernel
theorem dM_cut_77 : decode cM_cut 77 = .ok (.sipush 301, 3) := by decide +kernel
theorem dM_cut_80 : decode cM_cut 80 = .ok (.iload 5, 2) := by decide +kernel
theorem dM_cut_82 : decode cM_cut 82 = .ok (.imul, 1) := by decide +kernel
theorem dM_cut_83 : decode cM_cut 83 = .ok (.istore 8, 2) := by decide +kernel
theorem dM_cut_85 : decode cM_cut 85 = .ok (.iload 8, 2) := by decide +kernel
theorem dM_cut_87 : decode cM_cut 87 = .ok (.sipush 301, 3) := by decide +kernel
theorem dM_cut_90 : decode cM_cut 90 = .ok (.iload 5, 2) := by decide +kernel
theorem dM_cut_92 : decode cM_cut 92 = .ok (.imul, 1) := by decide +kernel
theorem dM_cut_93 : decode cM_cut 93 = .ok (.aload_n 0, 1) := by decide +kernel
theorem dM_cut_94 : decode cM_cut 94 = .ok (.getfield 127, 3) := by decide +kernel
theorem dM_cut_97 : decode cM_cut 97 = .ok (.iload 5, 2) := by decide +kernel
theorem dM_cut_99 : decode cM_cut 99 = .ok (.iaload, 1) := by decide +kernel
theorem dM_cut_100 : decode cM_cut 100 = .ok (.iadd, 1) := by decide +kernel
theorem dM_cut_101 : decode cM_cut 101 = .ok (.if_icmp .gt 99, 3) := by decide +kernel
theorem dM_cut_104 : decode cM_cut 104 = .ok (.aload_n 0, 1) := by decide +kernel
theorem dM_cut_105 : decode cM_cut 105 = .ok (.getfield 312, 3) := by decide +kernel
theorem dM_cut_108 : decode cM_cut 108 = .ok (.ifCond .ne 92, 3) := by decide +kernel
theorem dM_cut_111 : decode cM_cut 111 = .ok (.aload_n 0, 1) := by decide +kernel
theorem dM_cut_112 : decode cM_cut 112 = .ok (.getfield 135, 3) := by decide +kernel
theorem dM_cut_115 : decode cM_cut 115 = .ok (.iload 7, 2) := by decide +kernel
theorem dM_cut_117 : decode cM_cut 117 = .ok (.iaload, 1) := by decide +kernel
theorem dM_cut_118 : decode cM_cut 118 = .ok (.aload_n 0, 1) := by decide +kernel
theorem dM_cut_119 : decode cM_cut 119 = .ok (.getfield 135, 3) := by decide +kernel
theorem dM_cut_122 : decode cM_cut 122 = .ok (.iload 8, 2) := by decide +kernel
theorem dM_cut_124 : decode cM_cut 124 = .ok (.iaload, 1) := by decide +kernel
theorem dM_cut_125 : decode cM_cut 125 = .ok (.if_icmp .le 13, 3) := by decide +kernel
theorem dM_cut_128 : decode cM_cut 128 = .ok (.aload_n 0, 1) := by decide +kernel
theorem dM_cut_129 : decode cM_cut 129 = .ok (.getfield 135, 3) := by decide +kernel
theorem dM_cut_132 : decode cM_cut 132 = .ok (.iload 7, 2) := by decide +kernel
theorem dM_cut_134 : decode cM_cut 134 = .ok (.iaload, 1) := by decide +kernel
theorem dM_cut_135 : decode cM_cut 135 = .ok (.goto 10, 3) := by decide +kernel
theorem dM_cut_138 : decode cM_cut 138 = .ok (.aload_n 0, 1) := by decide +kernel
theorem dM_cut_139 : decode cM_cut 139 = .ok (.getfield 135, 3) := by decide +kernel
theorem dM_cut_142 : decode cM_cut 142 = .ok (.iload 8, 2) := by decide +kernel
theorem dM_cut_144 : decode cM_cut 144 = .ok (.iaload, 1) := by decide +kernel
theorem dM_cut_145 : decode cM_cut 145 = .ok (.istore 9, 2) := by decide +kernel
theorem dM_cut_147 : decode cM_cut 147 = .ok (.iload 9, 2) := by decide +kernel
theorem dM_cut_149 : decode cM_cut 149 = .ok (.iload 6, 2) := by decide +kernel
theorem dM_cut_151 : decode cM_cut 151 = .ok (.if_icmp .gt 43, 3) := by decide +kernel
theorem dM_cut_154 : decode cM_cut 154 = .ok (.aload_n 0, 1) := by decide +kernel
theorem dM_cut_155 : decode cM_cut 155 = .ok (.getfield 135, 3) := by decide +kernel
theorem dM_cut_158 : decode cM_cut 158 = .ok (.iload 7, 2) := by decide +kernel
theorem dM_cut_160 : decode cM_cut 160 = .ok (.iaload, 1) := by decide +kernel
theorem dM_cut_161 : decode cM_cut 161 = .ok (.aload_n 0, 1) := by decide +kernel
theorem dM_cut_162 : decode cM_cut 162 = .ok (.getfield 135, 3) := by decide +kernel
theorem dM_cut_165 : decode cM_cut 165 = .ok (.iload 8, 2) := by decide +kernel
theorem dM_cut_167 : decode cM_cut 167 = .ok (.iaload, 1) := by decide +kernel
theorem dM_cut_168 : decode cM_cut 168 = .ok (.iadd, 1) := by decide +kernel
theorem dM_cut_169 : decode cM_cut 169 = .ok (.iload 6, 2) := by decide +kernel
theorem dM_cut_171 : decode cM_cut 171 = .ok (.if_icmp .lt 23, 3) := by decide +kernel
theorem dM_cut_174 : decode cM_cut 174 = .ok (.aload_n 0, 1) := by decide +kernel
theorem dM_cut_175 : decode cM_cut 175 = .ok (.iload 7, 2) := by decide +kernel
theorem dM_cut_177 : decode cM_cut 177 = .ok (.iload 8, 2) := by decide +kernel
theorem dM_cut_179 : decode cM_cut 179 = .ok (.invokevirtual 423, 3) := by decide +kernel
theorem dM_cut_182 : decode cM_cut 182 = .ok (.iload 6, 2) := by decide +kernel
theorem dM_cut_184 : decode cM_cut 184 = .ok (.if_icmp .ne 10, 3) := by decide +kernel
theorem dM_cut_187 : decode cM_cut 187 = .ok (.aload_n 0, 1) := by decide +kernel
theorem dM_cut_188 : decode cM_cut 188 = .ok (.iload_n 3, 1) := by decide +kernel
theorem dM_cut_189 : decode cM_cut 189 = .ok (.iload 6, 2) := by decide +kernel
theorem dM_cut_191 : decode cM_cut 191 = .ok (.invokevirtual 426, 3) := by decide +kernel
theorem dM_cut_194 : decode cM_cut 194 = .ok (.iinc 8 1, 3) := by decide +kernel
theorem dM_cut_197 : decode cM_cut 197 = .ok (.goto (-112), 3) := by decide +kernel
theorem dM_cut_200 : decode cM_cut 200 = .ok (.iinc 7 1, 3) := by decide +kernel
theorem dM_cut_203 : decode cM_cut 203 = .ok (.goto (-152), 3) := by decide +kernel
theorem dM_cut_206 : decode cM_cut 206 = .ok (.iinc 6 1, 3) := by decide +kernel
theorem dM_cut_209 : decode cM_cut 209 = .ok (.goto (-172), 3) := by decide +kernel
theorem dM_cut_212 : decode cM_cut 212 = .ok (.aload_n 0, 1) := by decide +kernel
theorem dM_cut_213 : decode cM_cut 213 = .ok (.iload_n 3, 1) := by decide +kernel
theorem dM_cut_214 : decode cM_cut 214 = .ok (.invokevirtual 429, 3) := by decide +kernel
theorem dM_cut_217 : decode cM_cut 217 = .ok (.return_, 1) := by decide +kernel
theorem wv_2490 : Cond.methodLink "CellForgeModel" 423 (⟨"CellForgeModel", "join", "(II)I"⟩ : MethodName) ∈ cfB := cf_in 2490 (by decide +kernel) rfl
set_option maxRecDepth 100000 in
theorem wv_2493 : Cond.code (⟨"CellForgeModel", "join", "(II)I"⟩ : MethodName) prog_14_method_49_code 8 (Option.some Jvm.ClassFile.FieldType.int) ∈ cfB := List.mem_filter.mpr ⟨List.mem_append_right _ (List.mem_append_right _ (List.mem_append_right _ (List.mem_append_right _ (List.mem_append_right _ (List.mem_append_right _ (List.mem_append_right _ (List.mem_append_right _ (List.mem_append_right _ (List.mem_append_right _ (List.mem_append_left _ (List.mem_of_getElem? (i := 177) rfl))))))))))), rfl⟩
theorem wv_2492 : Cond.instanceMethod (⟨"CellForgeModel", "join", "(II)I"⟩ : MethodName) ∈ cfB := cf_in 2492 (by decide +kernel) rfl
theorem wv_102 : Cond.selects "CellForgeModel" (⟨"CellForgeModel", "join", "(II)I"⟩ : MethodName) (⟨"CellForgeModel", "join", "(II)I"⟩ : MethodName) ∈ cfB := cf_in 102 (by decide +kernel) rfl
theorem wv_2494 : Cond.methodLink "CellForgeModel" 426 (⟨"CellForgeModel", "tryCut", "(II)V"⟩ : MethodName) ∈ cfB := cf_in 2494 (by decide +kernel) rfl
theorem wv_2497 : Cond.code (⟨"CellForgeModel", "tryCut", "(II)V"⟩ : MethodName) prog_14_method_52_code 5 (Option.none : Option Jvm.ClassFile.FieldType) ∈ cfB := cf_in 2497 (by decide +kernel) rfl
theorem wv_2496 : Cond.instanceMethod (⟨"CellForgeModel", "tryCut", "(II)V"⟩ : MethodName) ∈ cfB := cf_in 2496 (by decide +kernel) rfl
theorem wv_103 : Cond.selects "CellForgeModel" (⟨"CellForgeModel", "tryCut", "(II)V"⟩ : MethodName) (⟨"CellForgeModel", "tryCut", "(II)V"⟩ : MethodName) ∈ cfB := cf_in 103 (by decide +kernel) rfl
theorem wv_2482 : Cond.methodLink "CellForgeModel" 429 (⟨"CellForgeModel", "alone", "(I)V"⟩ : MethodName) ∈ cfB := cf_in 2482 (by decide +kernel) rfl
theorem wv_2485 : Cond.code (⟨"CellForgeModel", "alone", "(I)V"⟩ : MethodName) prog_14_method_53_code 3 (Option.none : Option Jvm.ClassFile.FieldType) ∈ cfB := cf_in 2485 (by decide +kernel) rfl
theorem wv_2484 : Cond.instanceMethod (⟨"CellForgeModel", "alone", "(I)V"⟩ : MethodName) ∈ cfB := cf_in 2484 (by decide +kernel) rfl
theorem wv_100 : Cond.selects "CellForgeModel" (⟨"CellForgeModel", "alone", "(I)V"⟩ : MethodName) (⟨"CellForgeModel", "alone", "(I)V"⟩ : MethodName) ∈ cfB := cf_in 100 (by decide +kernel) rfl
set_option maxHeartbeats 4000000 in
set_option maxRecDepth 100000 in
theorem bM_goesApart_33 {p : Program} {l : Launch} {e : Env} {s : State} {m : MethodId} {below : List Frame} {meth : Method} {c : Code} {A : Nat → Prop} {D : va_G} {K : Nat → ClassId} {h0 : Nat} {a0 : Nat → Nat} {AR : Array Value} (C : (dc_C p s m AR meth c cM_goesApart 2 (Option.some Jvm.ClassFile.FieldType.boolean) yM_goesApart ∧ cf_E D K A s s.heap ∧ ∀ q, s.heap.size ≤ q → A q)) (s0 : Int32) (o0 : cf_O) (r : Int32) (h : fM_goesApart_33 s0 o0 = some r) {H : Heap} {locs : List Loc} {ls : Array Slot} (hP : va_P D vwCl (wM K h0 a0 o0) H) (hD : va_D A (wM K h0 a0 o0)) (hS : va_S A s.heap H locs) (hl : lv_has ls 2 []) : W p l e ({ frames := 1, cells := 0, slots := 0, locals := 20 }) s m AR below meth c H locs 0 0 (MQ below (va_Qi (fun (x : Int32) (_ : Unit) => x = r) (fun (_ : Unit) t => cf_At D A (wM K h0 a0 o0) t) A) AR s 0 0 A) (F0 m 33 ls [.int s0]) := by
  obtain ⟨⟨hx, hb, hr, hts, hown, hlocks, hin, hml⟩, hE, hA⟩ := id C
  have hK := hE.k
  obtain ⟨hz_1, h⟩ := op_w h
  obtain rfl := Option.some.inj h
  exact dc_zret hx hb hr (op_z hz_1) hlocks rfl hP hD hS dM_goesApart_33
set_option maxHeartbeats 4000000 in
set_option maxRecDepth 100000 in
theorem bM_goesApart_32 {p : Program} {l : Launch} {e : Env} {s : State} {m : MethodId} {below : List Frame} {meth : Method} {c : Code} {A : Nat → Prop} {D : va_G} {K : Nat → ClassId} {h0 : Nat} {a0 : Nat → Nat} {AR : Array Value} (C : (dc_C p s m AR meth c cM_goesApart 2 (Option.some Jvm.ClassFile.FieldType.boolean) yM_goesApart ∧ cf_E D K A s s.heap ∧ ∀ q, s.heap.size ≤ q → A q)) (o0 : cf_O) (r : Int32) (h : fM_goesApart_32 o0 = some r) {H : Heap} {locs : List Loc} {ls : Array Slot} (hP : va_P D vwCl (wM K h0 a0 o0) H) (hD : va_D A (wM K h0 a0 o0)) (hS : va_S A s.heap H locs) (hl : lv_has ls 2 []) : W p l e ({ frames := 1, cells := 0, slots := 0, locals := 20 }) s m AR below meth c H locs 0 0 (MQ below (va_Qi (fun (x : Int32) (_ : Unit) => x = r) (fun (_ : Unit) t => cf_At D A (wM K h0 a0 o0) t) A) AR s 0 0 A) (F0 m 32 ls []) := by
  obtain ⟨⟨hx, hb, hr, hts, hown, hlocks, hin, hml⟩, hE, hA⟩ := id C
  have hK := hE.k
  refine lv_iconst (v := 0) hx hb dM_goesApart_32 (by decide) ?_
  exact bM_goesApart_33 C _ _ _ h hP hD hS (lv_sub hl [] rfl)
set_option maxHeartbeats 4000000 in
set_option maxRecDepth 100000 in
theorem bM_goesApart_0 {p : Program} {l : Launch} {e : Env} {s : State} {m : MethodId} {below : List Frame} {meth : Method} {c : Code} {A : Nat → Prop} {D : va_G} {K : Nat → ClassId} {h0 : Nat} {a0 : Nat → Nat} {AR : Array Value} (C : (dc_C p s m AR meth c cM_goesApart 2 (Option.some Jvm.ClassFile.FieldType.boolean) yM_goesApart ∧ cf_E D K A s s.heap ∧ ∀ q, s.heap.size ≤ q → A q)) (v1 : Int32) (o0 : cf_O) (r : Int32) (h : fM_goesApart_0 v1 o0 = some r) {H : Heap} {locs : List Loc} {ls : Array Slot} (hP : va_P D vwCl (wM K h0 a0 o0) H) (hD : va_D A (wM K h0 a0 o0)) (hS : va_S A s.heap H locs) (hl : lv_has ls 2 [(0, .ref h0), (1, .int v1)]) : W p l e ({ frames := 1, cells := 0, slots := 0, locals := 20 }) s m AR below meth c H locs 0 0 (MQ below (va_Qi (fun (x : Int32) (_ : Unit) => x = r) (fun (_ : Unit) t => cf_At D A (wM K h0 a0 o0) t) A) AR s 0 0 A) (F0 m 0 ls []) := by
  obtain ⟨⟨hx, hb, hr, hts, hown, hlocks, hin, hml⟩, hE, hA⟩ := id C
  have hK := hE.k
  refine lv_iload_n hx hb dM_goesApart_0 rfl (lv_at hl 1 rfl) ?_
  refine lv_iconst (v := 2) hx hb dM_goesApart_1 (by decide) ?_
  refine lv_irem hx hb dM_goesApart_2 (by decide) ?_
  refine lv_topi (fun x_1 ex_1 => ?_)
  have h := op_ks ex_1 h
  refine lv_if_ne (tgt := 32) hx hb dM_goesApart_3 (by decide) (fun c_2 => ?_) (fun c_2 => ?_)
  · have h := op_f c_2 h
    exact bM_goesApart_32 C _ _ h hP hD hS (lv_sub hl [] rfl)
  · have h := op_t c_2 h
    refine lv_iload_n hx hb dM_goesApart_6 rfl (lv_at hl 1 rfl) ?_
    refine lv_iconst (v := 2) hx hb dM_goesApart_7 (by decide) ?_
    refine lv_idiv hx hb dM_goesApart_8 (by decide) ?_
    refine lv_topi (fun x_3 ex_3 => ?_)
    have h := op_ks ex_3 h
    refine lv_aload_n hx hb dM_goesApart_9 rfl (lv_at hl 0 rfl) ?_
    obtain ⟨q_4, hq_4, h⟩ := op_b h
    refine dc_calli (va_runV (As := []) (rest := [.int x_3]) ⟨hx, hb, hml, hown, hts⟩ (mM_base l D K _ h0 a0 o0 _ hq_4) (cwV 0 hts (cf_GV wv_2412 wv_2414 wv_88 wv_173 wv_2415) rfl rfl rfl (by decide +kernel) ⟨Nat.le_of_ble_eq_true rfl, Nat.le_of_ble_eq_true rfl⟩) (dc_preV hE hP hD hS hA rfl 0 rfl) rfl rfl hl.1 rfl (lv_room (Nat.le_of_ble_eq_true rfl)) dM_goesApart_10 ⟨Nat.le_of_ble_eq_true rfl, Nat.le_of_ble_eq_true rfl⟩) hP hD hS hA (fun r_5 H locs hw_6 hP hD hS => ?_)
    subst r_5
    refine lv_icmp_lt (tgt := 32) hx hb dM_goesApart_13 (by decide) (fun c_7 => ?_) (fun c_7 => ?_)
    · have h := op_t c_7 h
      exact bM_goesApart_32 C _ _ h hP hD hS (lv_sub hl [] rfl)
    · have h := op_f c_7 h
      refine lv_aload_n hx hb dM_goesApart_16 rfl (lv_at hl 0 rfl) ?_
      refine va_get (D := D) (ci := 12) (v := .ref (a0 48)) (C := RM) (T := TM) (N := 99) hx hb hts inM hown hK hP 0 rfl rfl 48 (by decide) (hts _ wv_2030) (fun _ h9 => h9) rfl dM_goesApart_17 ?_
      refine lv_iload_n hx hb dM_goesApart_20 rfl (lv_at hl 1 rfl) ?_
      refine lv_iconst (v := 2) hx hb dM_goesApart_21 (by decide) ?_
      refine lv_idiv hx hb dM_goesApart_22 (by decide) ?_
      refine lv_topi (fun x_8 ex_8 => ?_)
      have h := op_ks ex_8 h
      obtain ⟨hi_9, h⟩ := op_n h
      refine va_iald (D := D) hx hb hK hP 31 0 rfl rfl hi_9 dM_goesApart_23 ?_
      refine lv_topi (fun x_10 ex_10 => ?_)
      have h := op_ks ex_10 h
      refine lv_iconst (v := 1) hx hb dM_goesApart_24 (by decide) ?_
      refine lv_icmp_ne (tgt := 32) hx hb dM_goesApart_25 (by decide) (fun c_11 => ?_) (fun c_11 => ?_)
      · have h := op_f c_11 h
        exact bM_goesApart_32 C _ _ h hP hD hS (lv_sub hl [] rfl)
      · have h := op_t c_11 h
        refine lv_iconst (v := 1) hx hb dM_goesApart_28 (by decide) ?_
        refine lv_goto (tgt := 33) hx hb dM_goesApart_29 (by decide) ?_
        exact bM_goesApart_33 C _ _ _ h hP hD hS (lv_sub hl [] rfl)
set_option maxRecDepth 100000 in
theorem mM_goesApart (l : Launch) (D : va_G) (K : Nat → ClassId) (sz : Nat) (v1 : Int32) (h0 : Nat) (a0 : Nat → Nat) (o0 : cf_O) (r : Int32) (h : fM_goesApart v1 o0 = some r) : Met l yM_goesApart (Cond.code yM_goesApart cM_goesApart 2 (Option.some Jvm.ClassFile.FieldType.boolean) :: cfB) ({ frames := 1, cells := 0, slots := 0, locals := 20 }) (va_Pc [.ref h0, .int v1] (cf_Pre D K sz (wM K h0 a0 o0))) (va_Qi (fun (x : Int32) (_ : Unit) => x = r) (fun (_ : Unit) t => cf_At D (va_A (wM K h0 a0 o0) sz) (wM K h0 a0 o0) t) (va_A (wM K h0 a0 o0) sz)) 0 0 (va_A (wM K h0 a0 o0) sz) := by
  refine cf_ofW (y := yM_goesApart) (As := [.ref h0, .int v1]) (WS := wM K h0 a0 o0) (maxL := 2) (fun A => (va_Qi (fun (x : Int32) (_ : Unit) => x = r) (fun (_ : Unit) t => cf_At D A (wM K h0 a0 o0) t) A)) (by decide) (Nat.le_of_ble_eq_true rfl) ?_
  intro p e s m below meth c A ls En hsz hA hP hD hE hS hl
  have C : (dc_C p s m (([.ref h0, .int v1] : List Value).toArray) meth c cM_goesApart 2 (Option.some Jvm.ClassFile.FieldType.boolean) yM_goesApart ∧ cf_E D K A s s.heap ∧ ∀ q, s.heap.size ≤ q → A q) := ⟨En, hE, hA⟩
  exact bM_goesApart_0 C v1 o0 r h hP hD hS hl
def IhM_look (p : Program) (l : Launch) (e : Env) (s : State) (m : MethodId) (below : List Frame) (meth : Method) (c : Code) (A : Nat → Prop) (D : va_G) (K : Nat → ClassId) (h0 : Nat) (a0 : Nat → Nat) (AR : Array Value) (n : Nat) : Prop := (∀ (v1 : Int32) (o0 : cf_O) (r : cf_O), gM_look n 0 v1 o0 = some r → ∀ {H : Heap} {locs : List Loc} {ls : Array Slot}, (va_P D vwCl (wM K h0 a0 o0) H) → (va_D A (wM K h0 a0 o0)) → va_S A s.heap H locs → lv_has ls 2 [(0, .ref h0), (1, .int v1)] → W p l e ({ frames := 2, cells := 0, slots := 0, locals := 41 }) s m AR below meth c H locs 0 0 (MQ below (va_Qv (fun (_ : Unit) => True) (fun (_ : Unit) t => cf_At D A (wM K h0 a0 r) t) A) AR s 0 0 A) (F0 m 2 ls [])) ∧ (∀ (v1 : Int32) (o0 : cf_O) (r : cf_O), gM_look n 1 v1 o0 = some r → ∀ {H : Heap} {locs : List Loc} {ls : Array Slot}, (va_P D vwCl (wM K h0 a0 o0) H) → (va_D A (wM K h0 a0 o0)) → va_S A s.heap H locs → lv_has ls 2 [(0, .ref h0), (1, .int v1)] → W p l e ({ frames := 2, cells := 0, slots := 0, locals := 41 }) s m AR below meth c H locs 0 0 (MQ below (va_Qv (fun (_ : Unit) => True) (fun (_ : Unit) t => cf_At D A (wM K h0 a0 r) t) A) AR s 0 0 A) (F0 m 38 ls [])) ∧ (∀ (v1 : Int32) (o0 : cf_O) (r : cf_O), gM_look n 2 v1 o0 = some r → ∀ {H : Heap} {locs : List Loc} {ls : Array Slot}, (va_P D vwCl (wM K h0 a0 o0) H) → (va_D A (wM K h0 a0 o0)) → va_S A s.heap H locs → lv_has ls 2 [(0, .ref h0), (1, .int v1)] → W p l e ({ frames := 2, cells := 0, slots := 0, locals := 41 }) s m AR below meth c H locs 0 0 (MQ below (va_Qv (fun (_ : Unit) => True) (fun (_ : Unit) t => cf_At D A (wM K h0 a0 r) t) A) AR s 0 0 A) (F0 m 90 ls [])) ∧ (∀ (v1 : Int32) (o0 : cf_O) (r : cf_O), gM_look n 3 v1 o0 = some r → ∀ {H : Heap} {locs : List Loc} {ls : Array Slot}, (va_P D vwCl (wM K h0 a0 o0) H) → (va_D A (wM K h0 a0 o0)) → va_S A s.heap H locs → lv_has ls 2 [(0, .ref h0), (1, .int v1)] → W p l e ({ frames := 2, cells := 0, slots := 0, locals := 41 }) s m AR below meth c H locs 0 0 (MQ below (va_Qv (fun (_ : Unit) => True) (fun (_ : Unit) t => cf_At D A (wM K h0 a0 r) t) A) AR s 0 0 A) (F0 m 178 ls []))
set_option maxHeartbeats 4000000 in
set_option maxRecDepth 100000 in
theorem bM_look_294 {p : Program} {l : Launch} {e : Env} {s : State} {m : MethodId} {below : List Frame} {meth : Method} {c : Code} {A : Nat → Prop} {D : va_G} {K : Nat → ClassId} {h0 : Nat} {a0 : Nat → Nat} {AR : Array Value} (C : (dc_C p s m AR meth c cM_look 2 (Option.none : Option Jvm.ClassFile.FieldType) yM_look ∧ cf_E D K A s s.heap ∧ ∀ q, s.heap.size ≤ q → A q)) {n : Nat} (ih : IhM_look p l e s m below meth c A D K h0 a0 AR n) (v1 : Int32) (o0 : cf_O) (r : cf_O) (h : fM_look_294 (gM_look n) v1 o0 = some r) {H : Heap} {locs : List Loc} {ls : Array Slot} (hP : va_P D vwCl (wM K h0 a0 o0) H) (hD : va_D A (wM K h0 a0 o0)) (hS : va_S A s.heap H locs) (hl : lv_has ls 2 [(0, .ref h0), (1, .int v1)]) : W p l e ({ frames := 2, cells := 0, slots := 0, locals := 41 }) s m AR below meth c H locs 0 0 (MQ below (va_Qv (fun (_ : Unit) => True) (fun (_ : Unit) t => cf_At D A (wM K h0 a0 r) t) A) AR s 0 0 A) (F0 m 294 ls []) := by
  obtain ⟨⟨hx, hb, hr, hts, hown, hlocks, hin, hml⟩, hE, hA⟩ := id C
  have hK := hE.k
  obtain ⟨x_1, ex_1⟩ : ∃ y : Int32, y = v1 + 1 := ⟨_, rfl⟩
  refine lv_iinc (v := x_1) (lv' := [(1, .int x_1), (0, .ref h0)]) hx hb dM_look_294 hl (k := 1) rfl (by rw [ex_1]; rfl) (by decide) rfl (fun ls hl => ?_)
  have h := op_ks ex_1 h
  refine lv_goto (tgt := 178) hx hb dM_look_297 (by decide) ?_
  exact (ih.2.2.2) _ _ _ h hP hD hS (lv_sub hl [1, 0] rfl)
set_option maxHeartbeats 4000000 in
set_option maxRecDepth 100000 in
theorem bM_look_293 {p : Program} {l : Launch} {e : Env} {s : State} {m : MethodId} {below : List Frame} {meth : Method} {c : Code} {A : Nat → Prop} {D : va_G} {K : Nat → ClassId} {h0 : Nat} {a0 : Nat → Nat} {AR : Array Value} (C : (dc_C p s m AR meth c cM_look 2 (Option.none : Option Jvm.ClassFile.FieldType) yM_look ∧ cf_E D K A s s.heap ∧ ∀ q, s.heap.size ≤ q → A q)) {n : Nat} (ih : IhM_look p l e s m below meth c A D K h0 a0 AR n) (v1 : Int32) (s1 : Int32) (s2 : Int32) (o0 : cf_O) (r : cf_O) (h : fM_look_293 (gM_look n) v1 s1 s2 o0 = some r) {H : Heap} {locs : List Loc} {ls : Array Slot} (hP : va_P D vwCl (wM K h0 a0 o0) H) (hD : va_D A (wM K h0 a0 o0)) (hS : va_S A s.heap H locs) (hl : lv_has ls 2 [(0, .ref h0), (1, .int v1)]) : W p l e ({ frames := 2, cells := 0, slots := 0, locals := 41 }) s m AR below meth c H locs 0 0 (MQ below (va_Qv (fun (_ : Unit) => True) (fun (_ : Unit) t => cf_At D A (wM K h0 a0 r) t) A) AR s 0 0 A) (F0 m 293 ls [.int s2, .int s1, .ref (a0 50)]) := by
  obtain ⟨⟨hx, hb, hr, hts, hown, hlocks, hin, hml⟩, hE, hA⟩ := id C
  have hK := hE.k
  obtain ⟨hi_1, h⟩ := op_n h
  refine va_zast (D := D) hx hb hK hP hD hS 33 3 rfl rfl hi_1 dM_look_293 (fun H locs hP hD hS => ?_)
  have hP : va_P D vwCl (wM K h0 a0 (xp o0 50 s1.toNatClampNeg (vp_nar .boolean s2))) H := hP
  have hD : va_D A (wM K h0 a0 (xp o0 50 s1.toNatClampNeg (vp_nar .boolean s2))) := hD
  obtain ⟨o_2, eo_2, h⟩ := op_kx h
  rw [← eo_2] at hP hD
  exact bM_look_294 C ih _ _ _ h hP hD hS (lv_sub hl [0, 1] rfl)
set_option maxHeartbeats 4000000 in
set_option maxRecDepth 100000 in
theorem bM_look_288 {p : Program} {l : Launch} {e : Env} {s : State} {m : MethodId} {below : List Frame} {meth : Method} {c : Code} {A : Nat → Prop} {D : va_G} {K : Nat → ClassId} {h0 : Nat} {a0 : Nat → Nat} {AR : Array Value} (C : (dc_C p s m AR meth c cM_look 2 (Option.none : Option Jvm.ClassFile.FieldType) yM_look ∧ cf_E D K A s s.heap ∧ ∀ q, s.heap.size ≤ q → A q)) {n : Nat} (ih : IhM_look p l e s m below meth c A D K h0 a0 AR n) (v1 : Int32) (s1 : Int32) (o0 : cf_O) (r : cf_O) (h : fM_look_288 (gM_look n) v1 s1 o0 = some r) {H : Heap} {locs : List Loc} {ls : Array Slot} (hP : va_P D vwCl (wM K h0 a0 o0) H) (hD : va_D A (wM K h0 a0 o0)) (hS : va_S A s.heap H locs) (hl : lv_has ls 2 [(0, .ref h0), (1, .int v1)]) : W p l e ({ frames := 2, cells := 0, slots := 0, locals := 41 }) s m AR below meth c H locs 0 0 (MQ below (va_Qv (fun (_ : Unit) => True) (fun (_ : Unit) t => cf_At D A (wM K h0 a0 r) t) A) AR s 0 0 A) (F0 m 288 ls [.int s1, .ref (a0 50)]) := by
  obtain ⟨⟨hx, hb, hr, hts, hown, hlocks, hin, hml⟩, hE, hA⟩ := id C
  have hK := hE.k
  refine lv_iconst (v := 1) hx hb dM_look_288 (by decide) ?_
  refine lv_goto (tgt := 293) hx hb dM_look_289 (by decide) ?_
  exact bM_look_293 C ih _ _ _ _ _ h hP hD hS (lv_sub hl [0, 1] rfl)
set_option maxHeartbeats 4000000 in
set_option maxRecDepth 100000 in
theorem bM_look_246 {p : Program} {l : Launch} {e : Env} {s : State} {m : MethodId} {below : List Frame} {meth : Method} {c : Code} {A : Nat → Prop} {D : va_G} {K : Nat → ClassId} {h0 : Nat} {a0 : Nat → Nat} {AR : Array Value} (C : (dc_C p s m AR meth c cM_look 2 (Option.none : Option Jvm.ClassFile.FieldType) yM_look ∧ cf_E D K A s s.heap ∧ ∀ q, s.heap.size ≤ q → A q)) {n : Nat} (ih : IhM_look p l e s m below meth c A D K h0 a0 AR n) (v1 : Int32) (s1 : Int32) (s2 : Int32) (o0 : cf_O) (r : cf_O) (h : fM_look_246 (gM_look n) v1 s1 s2 o0 = some r) {H : Heap} {locs : List Loc} {ls : Array Slot} (hP : va_P D vwCl (wM K h0 a0 o0) H) (hD : va_D A (wM K h0 a0 o0)) (hS : va_S A s.heap H locs) (hl : lv_has ls 2 [(0, .ref h0), (1, .int v1)]) : W p l e ({ frames := 2, cells := 0, slots := 0, locals := 41 }) s m AR below meth c H locs 0 0 (MQ below (va_Qv (fun (_ : Unit) => True) (fun (_ : Unit) t => cf_At D A (wM K h0 a0 r) t) A) AR s 0 0 A) (F0 m 246 ls [.int s2, .int s1, .ref (a0 50)]) := by
  obtain ⟨⟨hx, hb, hr, hts, hown, hlocks, hin, hml⟩, hE, hA⟩ := id C
  have hK := hE.k
  obtain ⟨hi_1, h⟩ := op_n h
  refine va_zast (D := D) hx hb hK hP hD hS 33 3 rfl rfl hi_1 dM_look_246 (fun H locs hP hD hS => ?_)
  have hP : va_P D vwCl (wM K h0 a0 (xp o0 50 s1.toNatClampNeg (vp_nar .boolean s2))) H := hP
  have hD : va_D A (wM K h0 a0 (xp o0 50 s1.toNatClampNeg (vp_nar .boolean s2))) := hD
  obtain ⟨o_2, eo_2, h⟩ := op_kx h
  rw [← eo_2] at hP hD
  refine lv_aload_n hx hb dM_look_247 rfl (lv_at hl 0 rfl) ?_
  refine va_get (D := D) (ci := 12) (v := .ref (a0 50)) (C := RM) (T := TM) (N := 99) hx hb hts inM hown hK hP 0 rfl rfl 50 (by decide) (hts _ wv_2032) (fun _ h9 => h9) rfl dM_look_248 ?_
  refine lv_aload_n hx hb dM_look_251 rfl (lv_at hl 0 rfl) ?_
  refine va_get (D := D) (ci := 12) (v := .ref (a0 45)) (C := RM) (T := TM) (N := 99) hx hb hts inM hown hK hP 0 rfl rfl 45 (by decide) (hts _ wv_2027) (fun _ h9 => h9) rfl dM_look_252 ?_
  refine lv_iload_n hx hb dM_look_255 rfl (lv_at hl 1 rfl) ?_
  obtain ⟨hi_3, h⟩ := op_n h
  refine va_iald (D := D) hx hb hK hP 28 0 rfl rfl hi_3 dM_look_256 ?_
  refine lv_topi (fun x_4 ex_4 => ?_)
  have h := op_ks ex_4 h
  refine lv_iconst (v := 2) hx hb dM_look_257 (by decide) ?_
  refine lv_idiv hx hb dM_look_258 (by decide) ?_
  refine lv_topi (fun x_5 ex_5 => ?_)
  have h := op_ks ex_5 h
  refine lv_aload_n hx hb dM_look_259 rfl (lv_at hl 0 rfl) ?_
  refine va_get (D := D) (ci := 12) (v := .ref (a0 50)) (C := RM) (T := TM) (N := 99) hx hb hts inM hown hK hP 0 rfl rfl 50 (by decide) (hts _ wv_2032) (fun _ h9 => h9) rfl dM_look_260 ?_
  refine lv_aload_n hx hb dM_look_263 rfl (lv_at hl 0 rfl) ?_
  refine va_get (D := D) (ci := 12) (v := .ref (a0 45)) (C := RM) (T := TM) (N := 99) hx hb hts inM hown hK hP 0 rfl rfl 45 (by decide) (hts _ wv_2027) (fun _ h9 => h9) rfl dM_look_264 ?_
  refine lv_iload_n hx hb dM_look_267 rfl (lv_at hl 1 rfl) ?_
  obtain ⟨hi_6, h⟩ := op_n h
  refine va_iald (D := D) hx hb hK hP 28 0 rfl rfl hi_6 dM_look_268 ?_
  refine lv_topi (fun x_7 ex_7 => ?_)
  have h := op_ks ex_7 h
  refine lv_iconst (v := 2) hx hb dM_look_269 (by decide) ?_
  refine lv_idiv hx hb dM_look_270 (by decide) ?_
  refine lv_topi (fun x_8 ex_8 => ?_)
  have h := op_ks ex_8 h
  obtain ⟨hi_9, h⟩ := op_n h
  refine va_zald (D := D) hx hb hK hP 33 3 rfl rfl hi_9 dM_look_271 ?_
  refine lv_topi (fun x_10 ex_10 => ?_)
  have h := op_ks ex_10 h
  refine lv_if_ne (tgt := 288) hx hb dM_look_272 (by decide) (fun c_11 => ?_) (fun c_11 => ?_)
  · have h := op_f c_11 h
    exact bM_look_288 C ih _ _ _ _ h hP hD hS (lv_sub hl [0, 1] rfl)
  · have h := op_t c_11 h
    refine lv_aload_n hx hb dM_look_275 rfl (lv_at hl 0 rfl) ?_
    refine lv_aload_n hx hb dM_look_276 rfl (lv_at hl 0 rfl) ?_
    refine va_get (D := D) (ci := 12) (v := .ref (a0 45)) (C := RM) (T := TM) (N := 99) hx hb hts inM hown hK hP 0 rfl rfl 45 (by decide) (hts _ wv_2027) (fun _ h9 => h9) rfl dM_look_277 ?_
    refine lv_iload_n hx hb dM_look_280 rfl (lv_at hl 1 rfl) ?_
    obtain ⟨hi_12, h⟩ := op_n h
    refine va_iald (D := D) hx hb hK hP 28 0 rfl rfl hi_12 dM_look_281 ?_
    refine lv_topi (fun x_13 ex_13 => ?_)
    have h := op_ks ex_13 h
    obtain ⟨q_14, hq_14, h⟩ := op_b h
    refine dc_calli (va_runV (As := [.int x_13]) (rest := [.int x_5, .ref (a0 50)]) ⟨hx, hb, hml, hown, hts⟩ (mM_goesApart l D K _ x_13 h0 a0 o_2 _ hq_14) (cwV 1 hts (cf_GV wv_2436 wv_2438 wv_91 wv_173 wv_2439) rfl rfl rfl (by decide +kernel) ⟨Nat.le_of_ble_eq_true rfl, Nat.le_of_ble_eq_true rfl⟩) (dc_preV hE hP hD hS hA rfl 0 rfl) rfl rfl hl.1 rfl (lv_room (Nat.le_of_ble_eq_true rfl)) dM_look_282 ⟨Nat.le_of_ble_eq_true rfl, Nat.le_of_ble_eq_true rfl⟩) hP hD hS hA (fun r_15 H locs hw_16 hP hD hS => ?_)
    subst r_15
    refine lv_if_eq (tgt := 292) hx hb dM_look_285 (by decide) (fun c_17 => ?_) (fun c_17 => ?_)
    · have h := op_t c_17 h
      refine lv_iconst (v := 0) hx hb dM_look_292 (by decide) ?_
      exact bM_look_293 C ih _ _ _ _ _ h hP hD hS (lv_sub hl [0, 1] rfl)
    · have h := op_f c_17 h
      exact bM_look_288 C ih _ _ _ _ h hP hD hS (lv_sub hl [0, 1] rfl)
set_option maxHeartbeats 4000000 in
set_option maxRecDepth 100000 in
theorem bM_look_241 {p : Program} {l : Launch} {e : Env} {s : State} {m : MethodId} {below : List Frame} {meth : Method} {c : Code} {A : Nat → Prop} {D : va_G} {K : Nat → ClassId} {h0 : Nat} {a0 : Nat → Nat} {AR : Array Value} (C : (dc_C p s m AR meth c cM_look 2 (Option.none : Option Jvm.ClassFile.FieldType) yM_look ∧ cf_E D K A s s.heap ∧ ∀ q, s.heap.size ≤ q → A q)) {n : Nat} (ih : IhM_look p l e s m below meth c A D K h0 a0 AR n) (v1 : Int32) (s1 : Int32) (o0 : cf_O) (r : cf_O) (h : fM_look_241 (gM_look n) v1 s1 o0 = some r) {H : Heap} {locs : List Loc} {ls : Array Slot} (hP : va_P D vwCl (wM K h0 a0 o0) H) (hD : va_D A (wM K h0 a0 o0)) (hS : va_S A s.heap H locs) (hl : lv_has ls 2 [(0, .ref h0), (1, .int v1)]) : W p l e ({ frames := 2, cells := 0, slots := 0, locals := 41 }) s m AR below meth c H locs 0 0 (MQ below (va_Qv (fun (_ : Unit) => True) (fun (_ : Unit) t => cf_At D A (wM K h0 a0 r) t) A) AR s 0 0 A) (F0 m 241 ls [.int s1, .ref (a0 50)]) := by
  obtain ⟨⟨hx, hb, hr, hts, hown, hlocks, hin, hml⟩, hE, hA⟩ := id C
  have hK := hE.k
  refine lv_iconst (v := 1) hx hb dM_look_241 (by decide) ?_
  refine lv_goto (tgt := 246) hx hb dM_look_242 (by decide) ?_
  exact bM_look_246 C ih _ _ _ _ _ h hP hD hS (lv_sub hl [0, 1] rfl)
set_option maxHeartbeats 4000000 in
set_option maxRecDepth 100000 in
theorem bM_look_178 {p : Program} {l : Launch} {e : Env} {s : State} {m : MethodId} {below : List Frame} {meth : Method} {c : Code} {A : Nat → Prop} {D : va_G} {K : Nat → ClassId} {h0 : Nat} {a0 : Nat → Nat} {AR : Array Value} (C : (dc_C p s m AR meth c cM_look 2 (Option.none : Option Jvm.ClassFile.FieldType) yM_look ∧ cf_E D K A s s.heap ∧ ∀ q, s.heap.size ≤ q → A q)) {n : Nat} (ih : IhM_look p l e s m below meth c A D K h0 a0 AR n) (v1 : Int32) (o0 : cf_O) (r : cf_O) (h : fM_look_178 (gM_look n) v1 o0 = some r) {H : Heap} {locs : List Loc} {ls : Array Slot} (hP : va_P D vwCl (wM K h0 a0 o0) H) (hD : va_D A (wM K h0 a0 o0)) (hS : va_S A s.heap H locs) (hl : lv_has ls 2 [(0, .ref h0), (1, .int v1)]) : W p l e ({ frames := 2, cells := 0, slots := 0, locals := 41 }) s m AR below meth c H locs 0 0 (MQ below (va_Qv (fun (_ : Unit) => True) (fun (_ : Unit) t => cf_At D A (wM K h0 a0 r) t) A) AR s 0 0 A) (F0 m 178 ls []) := by
  obtain ⟨⟨hx, hb, hr, hts, hown, hlocks, hin, hml⟩, hE, hA⟩ := id C
  have hK := hE.k
  refine lv_iload_n hx hb dM_look_178 rfl (lv_at hl 1 rfl) ?_
  refine lv_aload_n hx hb dM_look_179 rfl (lv_at hl 0 rfl) ?_
  refine va_get (D := D) (ci := 12) (v := .int (o0.1 43)) (C := RM) (T := TM) (N := 99) hx hb hts inM hown hK hP 0 rfl rfl 43 (by decide) (hts _ wv_2025) (fun _ h9 => h9) rfl dM_look_180 ?_
  refine lv_icmp_ge (tgt := 300) hx hb dM_look_183 (by decide) (fun c_1 => ?_) (fun c_1 => ?_)
  · have h := op_t c_1 h
    obtain rfl := Option.some.inj h
    exact dc_vret hx hb hr hlocks rfl hP hD hS dM_look_300
  · have h := op_f c_1 h
    refine lv_aload_n hx hb dM_look_186 rfl (lv_at hl 0 rfl) ?_
    refine va_get (D := D) (ci := 12) (v := .ref (a0 49)) (C := RM) (T := TM) (N := 99) hx hb hts inM hown hK hP 0 rfl rfl 49 (by decide) (hts _ wv_2031) (fun _ h9 => h9) rfl dM_look_187 ?_
    refine lv_aload_n hx hb dM_look_190 rfl (lv_at hl 0 rfl) ?_
    obtain ⟨q_2, hq_2, h⟩ := op_b h
    refine dc_calli (va_runV (As := []) (rest := [.ref (a0 49)]) ⟨hx, hb, hml, hown, hts⟩ (mM_base l D K _ h0 a0 o0 _ hq_2) (cwV 0 hts (cf_GV wv_2412 wv_2414 wv_88 wv_173 wv_2415) rfl rfl rfl (by decide +kernel) ⟨Nat.le_of_ble_eq_true rfl, Nat.le_of_ble_eq_true rfl⟩) (dc_preV hE hP hD hS hA rfl 0 rfl) rfl rfl hl.1 rfl (lv_room (Nat.le_of_ble_eq_true rfl)) dM_look_191 ⟨Nat.le_of_ble_eq_true rfl, Nat.le_of_ble_eq_true rfl⟩) hP hD hS hA (fun r_3 H locs hw_4 hP hD hS => ?_)
    subst r_3
    refine lv_iload_n hx hb dM_look_194 rfl (lv_at hl 1 rfl) ?_
    refine lv_iadd hx hb dM_look_195 ?_
    refine lv_topi (fun x_5 ex_5 => ?_)
    have h := op_ks ex_5 h
    obtain ⟨hi_6, h⟩ := op_n h
    refine va_zald (D := D) hx hb hK hP 32 3 rfl rfl hi_6 dM_look_196 ?_
    refine lv_topi (fun x_7 ex_7 => ?_)
    have h := op_ks ex_7 h
    refine lv_if_eq (tgt := 294) hx hb dM_look_197 (by decide) (fun c_8 => ?_) (fun c_8 => ?_)
    · have h := op_t c_8 h
      exact bM_look_294 C ih _ _ _ h hP hD hS (lv_sub hl [0, 1] rfl)
    · have h := op_f c_8 h
      refine lv_aload_n hx hb dM_look_200 rfl (lv_at hl 0 rfl) ?_
      refine va_get (D := D) (ci := 12) (v := .ref (a0 50)) (C := RM) (T := TM) (N := 99) hx hb hts inM hown hK hP 0 rfl rfl 50 (by decide) (hts _ wv_2032) (fun _ h9 => h9) rfl dM_look_201 ?_
      refine lv_aload_n hx hb dM_look_204 rfl (lv_at hl 0 rfl) ?_
      refine va_get (D := D) (ci := 12) (v := .ref (a0 44)) (C := RM) (T := TM) (N := 99) hx hb hts inM hown hK hP 0 rfl rfl 44 (by decide) (hts _ wv_2026) (fun _ h9 => h9) rfl dM_look_205 ?_
      refine lv_iload_n hx hb dM_look_208 rfl (lv_at hl 1 rfl) ?_
      obtain ⟨hi_9, h⟩ := op_n h
      refine va_iald (D := D) hx hb hK hP 27 0 rfl rfl hi_9 dM_look_209 ?_
      refine lv_topi (fun x_10 ex_10 => ?_)
      have h := op_ks ex_10 h
      refine lv_iconst (v := 2) hx hb dM_look_210 (by decide) ?_
      refine lv_idiv hx hb dM_look_211 (by decide) ?_
      refine lv_topi (fun x_11 ex_11 => ?_)
      have h := op_ks ex_11 h
      refine lv_aload_n hx hb dM_look_212 rfl (lv_at hl 0 rfl) ?_
      refine va_get (D := D) (ci := 12) (v := .ref (a0 50)) (C := RM) (T := TM) (N := 99) hx hb hts inM hown hK hP 0 rfl rfl 50 (by decide) (hts _ wv_2032) (fun _ h9 => h9) rfl dM_look_213 ?_
      refine lv_aload_n hx hb dM_look_216 rfl (lv_at hl 0 rfl) ?_
      refine va_get (D := D) (ci := 12) (v := .ref (a0 44)) (C := RM) (T := TM) (N := 99) hx hb hts inM hown hK hP 0 rfl rfl 44 (by decide) (hts _ wv_2026) (fun _ h9 => h9) rfl dM_look_217 ?_
      refine lv_iload_n hx hb dM_look_220 rfl (lv_at hl 1 rfl) ?_
      obtain ⟨hi_12, h⟩ := op_n h
      refine va_iald (D := D) hx hb hK hP 27 0 rfl rfl hi_12 dM_look_221 ?_
      refine lv_topi (fun x_13 ex_13 => ?_)
      have h := op_ks ex_13 h
      refine lv_iconst (v := 2) hx hb dM_look_222 (by decide) ?_
      refine lv_idiv hx hb dM_look_223 (by decide) ?_
      refine lv_topi (fun x_14 ex_14 => ?_)
      have h := op_ks ex_14 h
      obtain ⟨hi_15, h⟩ := op_n h
      refine va_zald (D := D) hx hb hK hP 33 3 rfl rfl hi_15 dM_look_224 ?_
      refine lv_topi (fun x_16 ex_16 => ?_)
      have h := op_ks ex_16 h
      refine lv_if_ne (tgt := 241) hx hb dM_look_225 (by decide) (fun c_17 => ?_) (fun c_17 => ?_)
      · have h := op_f c_17 h
        exact bM_look_241 C ih _ _ _ _ h hP hD hS (lv_sub hl [0, 1] rfl)
      · have h := op_t c_17 h
        refine lv_aload_n hx hb dM_look_228 rfl (lv_at hl 0 rfl) ?_
        refine lv_aload_n hx hb dM_look_229 rfl (lv_at hl 0 rfl) ?_
        refine va_get (D := D) (ci := 12) (v := .ref (a0 44)) (C := RM) (T := TM) (N := 99) hx hb hts inM hown hK hP 0 rfl rfl 44 (by decide) (hts _ wv_2026) (fun _ h9 => h9) rfl dM_look_230 ?_
        refine lv_iload_n hx hb dM_look_233 rfl (lv_at hl 1 rfl) ?_
        obtain ⟨hi_18, h⟩ := op_n h
        refine va_iald (D := D) hx hb hK hP 27 0 rfl rfl hi_18 dM_look_234 ?_
        refine lv_topi (fun x_19 ex_19 => ?_)
        have h := op_ks ex_19 h
        obtain ⟨q_20, hq_20, h⟩ := op_b h
        refine dc_calli (va_runV (As := [.int x_19]) (rest := [.int x_11, .ref (a0 50)]) ⟨hx, hb, hml, hown, hts⟩ (mM_goesApart l D K _ x_19 h0 a0 o0 _ hq_20) (cwV 1 hts (cf_GV wv_2436 wv_2438 wv_91 wv_173 wv_2439) rfl rfl rfl (by decide +kernel) ⟨Nat.le_of_ble_eq_true rfl, Nat.le_of_ble_eq_true rfl⟩) (dc_preV hE hP hD hS hA rfl 0 rfl) rfl rfl hl.1 rfl (lv_room (Nat.le_of_ble_eq_true rfl)) dM_look_235 ⟨Nat.le_of_ble_eq_true rfl, Nat.le_of_ble_eq_true rfl⟩) hP hD hS hA (fun r_21 H locs hw_22 hP hD hS => ?_)
        subst r_21
        refine lv_if_eq (tgt := 245) hx hb dM_look_238 (by decide) (fun c_23 => ?_) (fun c_23 => ?_)
        · have h := op_t c_23 h
          refine lv_iconst (v := 0) hx hb dM_look_245 (by decide) ?_
          exact bM_look_246 C ih _ _ _ _ _ h hP hD hS (lv_sub hl [0, 1] rfl)
        · have h := op_f c_23 h
          exact bM_look_241 C ih _ _ _ _ h hP hD hS (lv_sub hl [0, 1] rfl)
set_option maxHeartbeats 4000000 in
set_option maxRecDepth 100000 in
theorem bM_look_170 {p : Program} {l : Launch} {e : Env} {s : State} {m : MethodId} {below : List Frame} {meth : Method} {c : Code} {A : Nat → Prop} {D : va_G} {K : Nat → ClassId} {h0 : Nat} {a0 : Nat → Nat} {AR : Array Value} (C : (dc_C p s m AR meth c cM_look 2 (Option.none : Option Jvm.ClassFile.FieldType) yM_look ∧ cf_E D K A s s.heap ∧ ∀ q, s.heap.size ≤ q → A q)) {n : Nat} (ih : IhM_look p l e s m below meth c A D K h0 a0 AR n) (v1 : Int32) (o0 : cf_O) (r : cf_O) (h : fM_look_170 (gM_look n) v1 o0 = some r) {H : Heap} {locs : List Loc} {ls : Array Slot} (hP : va_P D vwCl (wM K h0 a0 o0) H) (hD : va_D A (wM K h0 a0 o0)) (hS : va_S A s.heap H locs) (hl : lv_has ls 2 [(0, .ref h0), (1, .int v1)]) : W p l e ({ frames := 2, cells := 0, slots := 0, locals := 41 }) s m AR below meth c H locs 0 0 (MQ below (va_Qv (fun (_ : Unit) => True) (fun (_ : Unit) t => cf_At D A (wM K h0 a0 r) t) A) AR s 0 0 A) (F0 m 170 ls []) := by
  obtain ⟨⟨hx, hb, hr, hts, hown, hlocks, hin, hml⟩, hE, hA⟩ := id C
  have hK := hE.k
  obtain ⟨x_1, ex_1⟩ : ∃ y : Int32, y = v1 + (-1) := ⟨_, rfl⟩
  refine lv_iinc (v := x_1) (lv' := [(1, .int x_1), (0, .ref h0)]) hx hb dM_look_170 hl (k := 1) rfl (by rw [ex_1]; rfl) (by decide) rfl (fun ls hl => ?_)
  have h := op_ks ex_1 h
  refine lv_goto (tgt := 90) hx hb dM_look_173 (by decide) ?_
  exact (ih.2.2.1) _ _ _ h hP hD hS (lv_sub hl [1, 0] rfl)
set_option maxHeartbeats 4000000 in
set_option maxRecDepth 100000 in
theorem bM_look_90 {p : Program} {l : Launch} {e : Env} {s : State} {m : MethodId} {below : List Frame} {meth : Method} {c : Code} {A : Nat → Prop} {D : va_G} {K : Nat → ClassId} {h0 : Nat} {a0 : Nat → Nat} {AR : Array Value} (C : (dc_C p s m AR meth c cM_look 2 (Option.none : Option Jvm.ClassFile.FieldType) yM_look ∧ cf_E D K A s s.heap ∧ ∀ q, s.heap.size ≤ q → A q)) {n : Nat} (ih : IhM_look p l e s m below meth c A D K h0 a0 AR n) (v1 : Int32) (o0 : cf_O) (r : cf_O) (h : fM_look_90 (gM_look n) v1 o0 = some r) {H : Heap} {locs : List Loc} {ls : Array Slot} (hP : va_P D vwCl (wM K h0 a0 o0) H) (hD : va_D A (wM K h0 a0 o0)) (hS : va_S A s.heap H locs) (hl : lv_has ls 2 [(0, .ref h0), (1, .int v1)]) : W p l e ({ frames := 2, cells := 0, slots := 0, locals := 41 }) s m AR below meth c H locs 0 0 (MQ below (va_Qv (fun (_ : Unit) => True) (fun (_ : Unit) t => cf_At D A (wM K h0 a0 r) t) A) AR s 0 0 A) (F0 m 90 ls []) := by
  obtain ⟨⟨hx, hb, hr, hts, hown, hlocks, hin, hml⟩, hE, hA⟩ := id C
  have hK := hE.k
  refine lv_iload_n hx hb dM_look_90 rfl (lv_at hl 1 rfl) ?_
  refine lv_if_lt (tgt := 176) hx hb dM_look_91 (by decide) (fun c_1 => ?_) (fun c_1 => ?_)
  · have h := op_t c_1 h
    refine lv_iconst (v := 0) hx hb dM_look_176 (by decide) ?_
    refine lv_istore_n (lv' := [(1, .int 0), (0, .ref h0)]) hx hb dM_look_177 rfl hl (by decide) rfl (fun ls hl => ?_)
    exact (ih.2.2.2) _ _ _ h hP hD hS (lv_sub hl [1, 0] rfl)
  · have h := op_f c_1 h
    refine lv_aload_n hx hb dM_look_94 rfl (lv_at hl 0 rfl) ?_
    refine va_get (D := D) (ci := 12) (v := .ref (a0 49)) (C := RM) (T := TM) (N := 99) hx hb hts inM hown hK hP 0 rfl rfl 49 (by decide) (hts _ wv_2031) (fun _ h9 => h9) rfl dM_look_95 ?_
    refine lv_aload_n hx hb dM_look_98 rfl (lv_at hl 0 rfl) ?_
    obtain ⟨q_2, hq_2, h⟩ := op_b h
    refine dc_calli (va_runV (As := []) (rest := [.ref (a0 49)]) ⟨hx, hb, hml, hown, hts⟩ (mM_base l D K _ h0 a0 o0 _ hq_2) (cwV 0 hts (cf_GV wv_2412 wv_2414 wv_88 wv_173 wv_2415) rfl rfl rfl (by decide +kernel) ⟨Nat.le_of_ble_eq_true rfl, Nat.le_of_ble_eq_true rfl⟩) (dc_preV hE hP hD hS hA rfl 0 rfl) rfl rfl hl.1 rfl (lv_room (Nat.le_of_ble_eq_true rfl)) dM_look_99 ⟨Nat.le_of_ble_eq_true rfl, Nat.le_of_ble_eq_true rfl⟩) hP hD hS hA (fun r_3 H locs hw_4 hP hD hS => ?_)
    subst r_3
    refine lv_iload_n hx hb dM_look_102 rfl (lv_at hl 1 rfl) ?_
    refine lv_iadd hx hb dM_look_103 ?_
    refine lv_topi (fun x_5 ex_5 => ?_)
    have h := op_ks ex_5 h
    obtain ⟨hi_6, h⟩ := op_n h
    refine va_zald (D := D) hx hb hK hP 32 3 rfl rfl hi_6 dM_look_104 ?_
    refine lv_topi (fun x_7 ex_7 => ?_)
    have h := op_ks ex_7 h
    refine lv_if_eq (tgt := 170) hx hb dM_look_105 (by decide) (fun c_8 => ?_) (fun c_8 => ?_)
    · have h := op_t c_8 h
      exact bM_look_170 C ih _ _ _ h hP hD hS (lv_sub hl [0, 1] rfl)
    · have h := op_f c_8 h
      refine lv_aload_n hx hb dM_look_108 rfl (lv_at hl 0 rfl) ?_
      refine va_get (D := D) (ci := 12) (v := .ref (a0 49)) (C := RM) (T := TM) (N := 99) hx hb hts inM hown hK hP 0 rfl rfl 49 (by decide) (hts _ wv_2031) (fun _ h9 => h9) rfl dM_look_109 ?_
      refine lv_aload_n hx hb dM_look_112 rfl (lv_at hl 0 rfl) ?_
      refine va_get (D := D) (ci := 12) (v := .ref (a0 44)) (C := RM) (T := TM) (N := 99) hx hb hts inM hown hK hP 0 rfl rfl 44 (by decide) (hts _ wv_2026) (fun _ h9 => h9) rfl dM_look_113 ?_
      refine lv_iload_n hx hb dM_look_116 rfl (lv_at hl 1 rfl) ?_
      obtain ⟨hi_9, h⟩ := op_n h
      refine va_iald (D := D) hx hb hK hP 27 0 rfl rfl hi_9 dM_look_117 ?_
      refine lv_topi (fun x_10 ex_10 => ?_)
      have h := op_ks ex_10 h
      refine lv_iconst (v := 2) hx hb dM_look_118 (by decide) ?_
      refine lv_idiv hx hb dM_look_119 (by decide) ?_
      refine lv_topi (fun x_11 ex_11 => ?_)
      have h := op_ks ex_11 h
      refine lv_iconst (v := 1) hx hb dM_look_120 (by decide) ?_
      obtain ⟨hi_12, h⟩ := op_n h
      refine va_zast (D := D) hx hb hK hP hD hS 32 3 rfl rfl hi_12 dM_look_121 (fun H locs hP hD hS => ?_)
      have hP : va_P D vwCl (wM K h0 a0 (xp o0 49 x_11.toNatClampNeg (vp_nar .boolean 1))) H := hP
      have hD : va_D A (wM K h0 a0 (xp o0 49 x_11.toNatClampNeg (vp_nar .boolean 1))) := hD
      obtain ⟨o_13, eo_13, h⟩ := op_kx h
      rw [← eo_13] at hP hD
      refine lv_aload_n hx hb dM_look_122 rfl (lv_at hl 0 rfl) ?_
      refine va_get (D := D) (ci := 12) (v := .ref (a0 49)) (C := RM) (T := TM) (N := 99) hx hb hts inM hown hK hP 0 rfl rfl 49 (by decide) (hts _ wv_2031) (fun _ h9 => h9) rfl dM_look_123 ?_
      refine lv_aload_n hx hb dM_look_126 rfl (lv_at hl 0 rfl) ?_
      refine va_get (D := D) (ci := 12) (v := .ref (a0 45)) (C := RM) (T := TM) (N := 99) hx hb hts inM hown hK hP 0 rfl rfl 45 (by decide) (hts _ wv_2027) (fun _ h9 => h9) rfl dM_look_127 ?_
      refine lv_iload_n hx hb dM_look_130 rfl (lv_at hl 1 rfl) ?_
      obtain ⟨hi_14, h⟩ := op_n h
      refine va_iald (D := D) hx hb hK hP 28 0 rfl rfl hi_14 dM_look_131 ?_
      refine lv_topi (fun x_15 ex_15 => ?_)
      have h := op_ks ex_15 h
      refine lv_iconst (v := 2) hx hb dM_look_132 (by decide) ?_
      refine lv_idiv hx hb dM_look_133 (by decide) ?_
      refine lv_topi (fun x_16 ex_16 => ?_)
      have h := op_ks ex_16 h
      refine lv_iconst (v := 1) hx hb dM_look_134 (by decide) ?_
      obtain ⟨hi_17, h⟩ := op_n h
      refine va_zast (D := D) hx hb hK hP hD hS 32 3 rfl rfl hi_17 dM_look_135 (fun H locs hP hD hS => ?_)
      have hP : va_P D vwCl (wM K h0 a0 (xp o_13 49 x_16.toNatClampNeg (vp_nar .boolean 1))) H := hP
      have hD : va_D A (wM K h0 a0 (xp o_13 49 x_16.toNatClampNeg (vp_nar .boolean 1))) := hD
      obtain ⟨o_18, eo_18, h⟩ := op_kx h
      rw [← eo_18] at hP hD
      refine lv_aload_n hx hb dM_look_136 rfl (lv_at hl 0 rfl) ?_
      refine va_get (D := D) (ci := 12) (v := .ref (a0 48)) (C := RM) (T := TM) (N := 99) hx hb hts inM hown hK hP 0 rfl rfl 48 (by decide) (hts _ wv_2030) (fun _ h9 => h9) rfl dM_look_137 ?_
      refine lv_aload_n hx hb dM_look_140 rfl (lv_at hl 0 rfl) ?_
      refine va_get (D := D) (ci := 12) (v := .ref (a0 44)) (C := RM) (T := TM) (N := 99) hx hb hts inM hown hK hP 0 rfl rfl 44 (by decide) (hts _ wv_2026) (fun _ h9 => h9) rfl dM_look_141 ?_
      refine lv_iload_n hx hb dM_look_144 rfl (lv_at hl 1 rfl) ?_
      obtain ⟨hi_19, h⟩ := op_n h
      refine va_iald (D := D) hx hb hK hP 27 0 rfl rfl hi_19 dM_look_145 ?_
      refine lv_topi (fun x_20 ex_20 => ?_)
      have h := op_ks ex_20 h
      refine lv_iconst (v := 2) hx hb dM_look_146 (by decide) ?_
      refine lv_idiv hx hb dM_look_147 (by decide) ?_
      refine lv_topi (fun x_21 ex_21 => ?_)
      have h := op_ks ex_21 h
      refine lv_dup2_11 hx hb dM_look_148 rfl rfl ?_
      obtain ⟨hi_22, h⟩ := op_n h
      refine va_iald (D := D) hx hb hK hP 31 0 rfl rfl hi_22 dM_look_149 ?_
      refine lv_topi (fun x_23 ex_23 => ?_)
      have h := op_ks ex_23 h
      refine lv_iconst (v := 1) hx hb dM_look_150 (by decide) ?_
      refine lv_iadd hx hb dM_look_151 ?_
      refine lv_topi (fun x_24 ex_24 => ?_)
      have h := op_ks ex_24 h
      obtain ⟨hi_25, h⟩ := op_n h
      refine va_iast (D := D) hx hb hK hP hD hS 31 0 rfl rfl hi_25 dM_look_152 (fun H locs hP hD hS => ?_)
      have hP : va_P D vwCl (wM K h0 a0 (xp o_18 48 x_21.toNatClampNeg x_24)) H := hP
      have hD : va_D A (wM K h0 a0 (xp o_18 48 x_21.toNatClampNeg x_24)) := hD
      obtain ⟨o_26, eo_26, h⟩ := op_kx h
      rw [← eo_26] at hP hD
      refine lv_aload_n hx hb dM_look_153 rfl (lv_at hl 0 rfl) ?_
      refine va_get (D := D) (ci := 12) (v := .ref (a0 48)) (C := RM) (T := TM) (N := 99) hx hb hts inM hown hK hP 0 rfl rfl 48 (by decide) (hts _ wv_2030) (fun _ h9 => h9) rfl dM_look_154 ?_
      refine lv_aload_n hx hb dM_look_157 rfl (lv_at hl 0 rfl) ?_
      refine va_get (D := D) (ci := 12) (v := .ref (a0 45)) (C := RM) (T := TM) (N := 99) hx hb hts inM hown hK hP 0 rfl rfl 45 (by decide) (hts _ wv_2027) (fun _ h9 => h9) rfl dM_look_158 ?_
      refine lv_iload_n hx hb dM_look_161 rfl (lv_at hl 1 rfl) ?_
      obtain ⟨hi_27, h⟩ := op_n h
      refine va_iald (D := D) hx hb hK hP 28 0 rfl rfl hi_27 dM_look_162 ?_
      refine lv_topi (fun x_28 ex_28 => ?_)
      have h := op_ks ex_28 h
      refine lv_iconst (v := 2) hx hb dM_look_163 (by decide) ?_
      refine lv_idiv hx hb dM_look_164 (by decide) ?_
      refine lv_topi (fun x_29 ex_29 => ?_)
      have h := op_ks ex_29 h
      refine lv_dup2_11 hx hb dM_look_165 rfl rfl ?_
      obtain ⟨hi_30, h⟩ := op_n h
      refine va_iald (D := D) hx hb hK hP 31 0 rfl rfl hi_30 dM_look_166 ?_
      refine lv_topi (fun x_31 ex_31 => ?_)
      have h := op_ks ex_31 h
      refine lv_iconst (v := 1) hx hb dM_look_167 (by decide) ?_
      refine lv_iadd hx hb dM_look_168 ?_
      refine lv_topi (fun x_32 ex_32 => ?_)
      have h := op_ks ex_32 h
      obtain ⟨hi_33, h⟩ := op_n h
      refine va_iast (D := D) hx hb hK hP hD hS 31 0 rfl rfl hi_33 dM_look_169 (fun H locs hP hD hS => ?_)
      have hP : va_P D vwCl (wM K h0 a0 (xp o_26 48 x_29.toNatClampNeg x_32)) H := hP
      have hD : va_D A (wM K h0 a0 (xp o_26 48 x_29.toNatClampNeg x_32)) := hD
      obtain ⟨o_34, eo_34, h⟩ := op_kx h
      rw [← eo_34] at hP hD
      exact bM_look_170 C ih _ _ _ h hP hD hS (lv_sub hl [0, 1] rfl)
set_option maxHeartbeats 4000000 in
set_option maxRecDepth 100000 in
theorem bM_look_38 {p : Program} {l : Launch} {e : Env} {s : State} {m : MethodId} {below : List Frame} {meth : Method} {c : Code} {A : Nat → Prop} {D : va_G} {K : Nat → ClassId} {h0 : Nat} {a0 : Nat → Nat} {AR : Array Value} (C : (dc_C p s m AR meth c cM_look 2 (Option.none : Option Jvm.ClassFile.FieldType) yM_look ∧ cf_E D K A s s.heap ∧ ∀ q, s.heap.size ≤ q → A q)) {n : Nat} (ih : IhM_look p l e s m below meth c A D K h0 a0 AR n) (v1 : Int32) (o0 : cf_O) (r : cf_O) (h : fM_look_38 (gM_look n) v1 o0 = some r) {H : Heap} {locs : List Loc} {ls : Array Slot} (hP : va_P D vwCl (wM K h0 a0 o0) H) (hD : va_D A (wM K h0 a0 o0)) (hS : va_S A s.heap H locs) (hl : lv_has ls 2 [(0, .ref h0), (1, .int v1)]) : W p l e ({ frames := 2, cells := 0, slots := 0, locals := 41 }) s m AR below meth c H locs 0 0 (MQ below (va_Qv (fun (_ : Unit) => True) (fun (_ : Unit) t => cf_At D A (wM K h0 a0 r) t) A) AR s 0 0 A) (F0 m 38 ls []) := by
  obtain ⟨⟨hx, hb, hr, hts, hown, hlocks, hin, hml⟩, hE, hA⟩ := id C
  have hK := hE.k
  refine lv_iload_n hx hb dM_look_38 rfl (lv_at hl 1 rfl) ?_
  refine lv_aload_n hx hb dM_look_39 rfl (lv_at hl 0 rfl) ?_
  refine va_get (D := D) (ci := 12) (v := .int (o0.1 40)) (C := RM) (T := TM) (N := 99) hx hb hts inM hown hK hP 0 rfl rfl 40 (by decide) (hts _ wv_2022) (fun _ h9 => h9) rfl dM_look_40 ?_
  refine lv_icmp_ge (tgt := 83) hx hb dM_look_43 (by decide) (fun c_1 => ?_) (fun c_1 => ?_)
  · have h := op_t c_1 h
    refine lv_aload_n hx hb dM_look_83 rfl (lv_at hl 0 rfl) ?_
    refine va_get (D := D) (ci := 12) (v := .int (o0.1 43)) (C := RM) (T := TM) (N := 99) hx hb hts inM hown hK hP 0 rfl rfl 43 (by decide) (hts _ wv_2025) (fun _ h9 => h9) rfl dM_look_84 ?_
    refine lv_iconst (v := 1) hx hb dM_look_87 (by decide) ?_
    refine lv_isub hx hb dM_look_88 ?_
    refine lv_topi (fun x_2 ex_2 => ?_)
    have h := op_ks ex_2 h
    refine lv_istore_n (lv' := [(1, .int x_2), (0, .ref h0)]) hx hb dM_look_89 rfl hl (by decide) rfl (fun ls hl => ?_)
    exact (ih.2.2.1) _ _ _ h hP hD hS (lv_sub hl [1, 0] rfl)
  · have h := op_f c_1 h
    refine lv_aload_n hx hb dM_look_46 rfl (lv_at hl 0 rfl) ?_
    refine va_get (D := D) (ci := 12) (v := .ref (a0 49)) (C := RM) (T := TM) (N := 99) hx hb hts inM hown hK hP 0 rfl rfl 49 (by decide) (hts _ wv_2031) (fun _ h9 => h9) rfl dM_look_47 ?_
    refine lv_aload_n hx hb dM_look_50 rfl (lv_at hl 0 rfl) ?_
    refine va_get (D := D) (ci := 12) (v := .ref (a0 47)) (C := RM) (T := TM) (N := 99) hx hb hts inM hown hK hP 0 rfl rfl 47 (by decide) (hts _ wv_2029) (fun _ h9 => h9) rfl dM_look_51 ?_
    refine lv_iload_n hx hb dM_look_54 rfl (lv_at hl 1 rfl) ?_
    obtain ⟨hi_3, h⟩ := op_n h
    refine va_iald (D := D) hx hb hK hP 30 0 rfl rfl hi_3 dM_look_55 ?_
    refine lv_topi (fun x_4 ex_4 => ?_)
    have h := op_ks ex_4 h
    refine lv_iconst (v := 2) hx hb dM_look_56 (by decide) ?_
    refine lv_idiv hx hb dM_look_57 (by decide) ?_
    refine lv_topi (fun x_5 ex_5 => ?_)
    have h := op_ks ex_5 h
    refine lv_iconst (v := 1) hx hb dM_look_58 (by decide) ?_
    obtain ⟨hi_6, h⟩ := op_n h
    refine va_zast (D := D) hx hb hK hP hD hS 32 3 rfl rfl hi_6 dM_look_59 (fun H locs hP hD hS => ?_)
    have hP : va_P D vwCl (wM K h0 a0 (xp o0 49 x_5.toNatClampNeg (vp_nar .boolean 1))) H := hP
    have hD : va_D A (wM K h0 a0 (xp o0 49 x_5.toNatClampNeg (vp_nar .boolean 1))) := hD
    obtain ⟨o_7, eo_7, h⟩ := op_kx h
    rw [← eo_7] at hP hD
    refine lv_aload_n hx hb dM_look_60 rfl (lv_at hl 0 rfl) ?_
    refine va_get (D := D) (ci := 12) (v := .ref (a0 48)) (C := RM) (T := TM) (N := 99) hx hb hts inM hown hK hP 0 rfl rfl 48 (by decide) (hts _ wv_2030) (fun _ h9 => h9) rfl dM_look_61 ?_
    refine lv_aload_n hx hb dM_look_64 rfl (lv_at hl 0 rfl) ?_
    refine va_get (D := D) (ci := 12) (v := .ref (a0 47)) (C := RM) (T := TM) (N := 99) hx hb hts inM hown hK hP 0 rfl rfl 47 (by decide) (hts _ wv_2029) (fun _ h9 => h9) rfl dM_look_65 ?_
    refine lv_iload_n hx hb dM_look_68 rfl (lv_at hl 1 rfl) ?_
    obtain ⟨hi_8, h⟩ := op_n h
    refine va_iald (D := D) hx hb hK hP 30 0 rfl rfl hi_8 dM_look_69 ?_
    refine lv_topi (fun x_9 ex_9 => ?_)
    have h := op_ks ex_9 h
    refine lv_iconst (v := 2) hx hb dM_look_70 (by decide) ?_
    refine lv_idiv hx hb dM_look_71 (by decide) ?_
    refine lv_topi (fun x_10 ex_10 => ?_)
    have h := op_ks ex_10 h
    refine lv_dup2_11 hx hb dM_look_72 rfl rfl ?_
    obtain ⟨hi_11, h⟩ := op_n h
    refine va_iald (D := D) hx hb hK hP 31 0 rfl rfl hi_11 dM_look_73 ?_
    refine lv_topi (fun x_12 ex_12 => ?_)
    have h := op_ks ex_12 h
    refine lv_iconst (v := 1) hx hb dM_look_74 (by decide) ?_
    refine lv_iadd hx hb dM_look_75 ?_
    refine lv_topi (fun x_13 ex_13 => ?_)
    have h := op_ks ex_13 h
    obtain ⟨hi_14, h⟩ := op_n h
    refine va_iast (D := D) hx hb hK hP hD hS 31 0 rfl rfl hi_14 dM_look_76 (fun H locs hP hD hS => ?_)
    have hP : va_P D vwCl (wM K h0 a0 (xp o_7 48 x_10.toNatClampNeg x_13)) H := hP
    have hD : va_D A (wM K h0 a0 (xp o_7 48 x_10.toNatClampNeg x_13)) := hD
    obtain ⟨o_15, eo_15, h⟩ := op_kx h
    rw [← eo_15] at hP hD
    obtain ⟨x_16, ex_16⟩ : ∃ y : Int32, y = v1 + 1 := ⟨_, rfl⟩
    refine lv_iinc (v := x_16) (lv' := [(1, .int x_16), (0, .ref h0)]) hx hb dM_look_77 hl (k := 1) rfl (by rw [ex_16]; rfl) (by decide) rfl (fun ls hl => ?_)
    have h := op_ks ex_16 h
    refine lv_goto (tgt := 38) hx hb dM_look_80 (by decide) ?_
    exact (ih.2.1) _ _ _ h hP hD hS (lv_sub hl [1, 0] rfl)
set_option maxHeartbeats 4000000 in
set_option maxRecDepth 100000 in
theorem bM_look_2 {p : Program} {l : Launch} {e : Env} {s : State} {m : MethodId} {below : List Frame} {meth : Method} {c : Code} {A : Nat → Prop} {D : va_G} {K : Nat → ClassId} {h0 : Nat} {a0 : Nat → Nat} {AR : Array Value} (C : (dc_C p s m AR meth c cM_look 2 (Option.none : Option Jvm.ClassFile.FieldType) yM_look ∧ cf_E D K A s s.heap ∧ ∀ q, s.heap.size ≤ q → A q)) {n : Nat} (ih : IhM_look p l e s m below meth c A D K h0 a0 AR n) (v1 : Int32) (o0 : cf_O) (r : cf_O) (h : fM_look_2 (gM_look n) v1 o0 = some r) {H : Heap} {locs : List Loc} {ls : Array Slot} (hP : va_P D vwCl (wM K h0 a0 o0) H) (hD : va_D A (wM K h0 a0 o0)) (hS : va_S A s.heap H locs) (hl : lv_has ls 2 [(0, .ref h0), (1, .int v1)]) : W p l e ({ frames := 2, cells := 0, slots := 0, locals := 41 }) s m AR below meth c H locs 0 0 (MQ below (va_Qv (fun (_ : Unit) => True) (fun (_ : Unit) t => cf_At D A (wM K h0 a0 r) t) A) AR s 0 0 A) (F0 m 2 ls []) := by
  obtain ⟨⟨hx, hb, hr, hts, hown, hlocks, hin, hml⟩, hE, hA⟩ := id C
  have hK := hE.k
  refine lv_iload_n hx hb dM_look_2 rfl (lv_at hl 1 rfl) ?_
  refine lv_sipush (v := 210) hx hb dM_look_3 (by decide) ?_
  refine lv_icmp_ge (tgt := 36) hx hb dM_look_6 (by decide) (fun c_1 => ?_) (fun c_1 => ?_)
  · have h := op_t c_1 h
    refine lv_iconst (v := 0) hx hb dM_look_36 (by decide) ?_
    refine lv_istore_n (lv' := [(1, .int 0), (0, .ref h0)]) hx hb dM_look_37 rfl hl (by decide) rfl (fun ls hl => ?_)
    exact (ih.2.1) _ _ _ h hP hD hS (lv_sub hl [1, 0] rfl)
  · have h := op_f c_1 h
    refine lv_aload_n hx hb dM_look_9 rfl (lv_at hl 0 rfl) ?_
    refine va_get (D := D) (ci := 12) (v := .ref (a0 49)) (C := RM) (T := TM) (N := 99) hx hb hts inM hown hK hP 0 rfl rfl 49 (by decide) (hts _ wv_2031) (fun _ h9 => h9) rfl dM_look_10 ?_
    refine lv_iload_n hx hb dM_look_13 rfl (lv_at hl 1 rfl) ?_
    refine lv_iconst (v := 0) hx hb dM_look_14 (by decide) ?_
    obtain ⟨hi_2, h⟩ := op_n h
    refine va_zast (D := D) hx hb hK hP hD hS 32 3 rfl rfl hi_2 dM_look_15 (fun H locs hP hD hS => ?_)
    have hP : va_P D vwCl (wM K h0 a0 (xp o0 49 v1.toNatClampNeg (vp_nar .boolean 0))) H := hP
    have hD : va_D A (wM K h0 a0 (xp o0 49 v1.toNatClampNeg (vp_nar .boolean 0))) := hD
    obtain ⟨o_3, eo_3, h⟩ := op_kx h
    rw [← eo_3] at hP hD
    refine lv_aload_n hx hb dM_look_16 rfl (lv_at hl 0 rfl) ?_
    refine va_get (D := D) (ci := 12) (v := .ref (a0 48)) (C := RM) (T := TM) (N := 99) hx hb hts inM hown hK hP 0 rfl rfl 48 (by decide) (hts _ wv_2030) (fun _ h9 => h9) rfl dM_look_17 ?_
    refine lv_iload_n hx hb dM_look_20 rfl (lv_at hl 1 rfl) ?_
    refine lv_iconst (v := 0) hx hb dM_look_21 (by decide) ?_
    obtain ⟨hi_4, h⟩ := op_n h
    refine va_iast (D := D) hx hb hK hP hD hS 31 0 rfl rfl hi_4 dM_look_22 (fun H locs hP hD hS => ?_)
    have hP : va_P D vwCl (wM K h0 a0 (xp o_3 48 v1.toNatClampNeg 0)) H := hP
    have hD : va_D A (wM K h0 a0 (xp o_3 48 v1.toNatClampNeg 0)) := hD
    obtain ⟨o_5, eo_5, h⟩ := op_kx h
    rw [← eo_5] at hP hD
    refine lv_aload_n hx hb dM_look_23 rfl (lv_at hl 0 rfl) ?_
    refine va_get (D := D) (ci := 12) (v := .ref (a0 50)) (C := RM) (T := TM) (N := 99) hx hb hts inM hown hK hP 0 rfl rfl 50 (by decide) (hts _ wv_2032) (fun _ h9 => h9) rfl dM_look_24 ?_
    refine lv_iload_n hx hb dM_look_27 rfl (lv_at hl 1 rfl) ?_
    refine lv_iconst (v := 0) hx hb dM_look_28 (by decide) ?_
    obtain ⟨hi_6, h⟩ := op_n h
    refine va_zast (D := D) hx hb hK hP hD hS 33 3 rfl rfl hi_6 dM_look_29 (fun H locs hP hD hS => ?_)
    have hP : va_P D vwCl (wM K h0 a0 (xp o_5 50 v1.toNatClampNeg (vp_nar .boolean 0))) H := hP
    have hD : va_D A (wM K h0 a0 (xp o_5 50 v1.toNatClampNeg (vp_nar .boolean 0))) := hD
    obtain ⟨o_7, eo_7, h⟩ := op_kx h
    rw [← eo_7] at hP hD
    obtain ⟨x_8, ex_8⟩ : ∃ y : Int32, y = v1 + 1 := ⟨_, rfl⟩
    refine lv_iinc (v := x_8) (lv' := [(1, .int x_8), (0, .ref h0)]) hx hb dM_look_30 hl (k := 1) rfl (by rw [ex_8]; rfl) (by decide) rfl (fun ls hl => ?_)
    have h := op_ks ex_8 h
    refine lv_goto (tgt := 2) hx hb dM_look_33 (by decide) ?_
    exact (ih.1) _ _ _ h hP hD hS (lv_sub hl [1, 0] rfl)
set_option maxHeartbeats 4000000 in
set_option maxRecDepth 100000 in
theorem bM_look_0 {p : Program} {l : Launch} {e : Env} {s : State} {m : MethodId} {below : List Frame} {meth : Method} {c : Code} {A : Nat → Prop} {D : va_G} {K : Nat → ClassId} {h0 : Nat} {a0 : Nat → Nat} {AR : Array Value} (C : (dc_C p s m AR meth c cM_look 2 (Option.none : Option Jvm.ClassFile.FieldType) yM_look ∧ cf_E D K A s s.heap ∧ ∀ q, s.heap.size ≤ q → A q)) {n : Nat} (ih : IhM_look p l e s m below meth c A D K h0 a0 AR n) (o0 : cf_O) (r : cf_O) (h : fM_look_0 (gM_look n) o0 = some r) {H : Heap} {locs : List Loc} {ls : Array Slot} (hP : va_P D vwCl (wM K h0 a0 o0) H) (hD : va_D A (wM K h0 a0 o0)) (hS : va_S A s.heap H locs) (hl : lv_has ls 2 [(0, .ref h0)]) : W p l e ({ frames := 2, cells := 0, slots := 0, locals := 41 }) s m AR below meth c H locs 0 0 (MQ below (va_Qv (fun (_ : Unit) => True) (fun (_ : Unit) t => cf_At D A (wM K h0 a0 r) t) A) AR s 0 0 A) (F0 m 0 ls []) := by
  obtain ⟨⟨hx, hb, hr, hts, hown, hlocks, hin, hml⟩, hE, hA⟩ := id C
  have hK := hE.k
  refine lv_iconst (v := 0) hx hb dM_look_0 (by decide) ?_
  refine lv_istore_n (lv' := [(1, .int 0), (0, .ref h0)]) hx hb dM_look_1 rfl hl (by decide) rfl (fun ls hl => ?_)
  exact (ih.1) _ _ _ h hP hD hS (lv_sub hl [1, 0] rfl)
theorem iM_look {p : Program} {l : Launch} {e : Env} {s : State} {m : MethodId} {below : List Frame} {meth : Method} {c : Code} {A : Nat → Prop} {D : va_G} {K : Nat → ClassId} {h0 : Nat} {a0 : Nat → Nat} {AR : Array Value} (C : (dc_C p s m AR meth c cM_look 2 (Option.none : Option Jvm.ClassFile.FieldType) yM_look ∧ cf_E D K A s s.heap ∧ ∀ q, s.heap.size ≤ q → A q)) : ∀ n, IhM_look p l e s m below meth c A D K h0 a0 AR n := by
  intro n
  induction n with
  | zero => exact ⟨(fun _ _ r h => by cases (show none = some r from h)), (fun _ _ r h => by cases (show none = some r from h)), (fun _ _ r h => by cases (show none = some r from h)), (fun _ _ r h => by cases (show none = some r from h))⟩
  | succ n ih => exact ⟨fun x0 x1 r h _ _ _ hP hD hS hl => bM_look_2 C ih x0 x1 r h hP hD hS hl, fun x0 x1 r h _ _ _ hP hD hS hl => bM_look_38 C ih x0 x1 r h hP hD hS hl, fun x0 x1 r h _ _ _ hP hD hS hl => bM_look_90 C ih x0 x1 r h hP hD hS hl, fun x0 x1 r h _ _ _ hP hD hS hl => bM_look_178 C ih x0 x1 r h hP hD hS hl⟩
set_option maxRecDepth 100000 in
theorem mM_look (l : Launch) (D : va_G) (K : Nat → ClassId) (sz : Nat) (h0 : Nat) (a0 : Nat → Nat) (o0 : cf_O) (r : cf_O) (h : fM_look o0 = some r) : Met l yM_look (Cond.code yM_look cM_look 2 (Option.none : Option Jvm.ClassFile.FieldType) :: cfB) ({ frames := 2, cells := 0, slots := 0, locals := 41 }) (va_Pc [.ref h0] (cf_Pre D K sz (wM K h0 a0 o0))) (va_Qv (fun (_ : Unit) => True) (fun (_ : Unit) t => cf_At D (va_A (wM K h0 a0 o0) sz) (wM K h0 a0 r) t) (va_A (wM K h0 a0 o0) sz)) 0 0 (va_A (wM K h0 a0 o0) sz) := by
  refine cf_ofW (y := yM_look) (As := [.ref h0]) (WS := wM K h0 a0 o0) (maxL := 2) (fun A => (va_Qv (fun (_ : Unit) => True) (fun (_ : Unit) t => cf_At D A (wM K h0 a0 r) t) A)) (by decide) (Nat.le_of_ble_eq_true rfl) ?_
  intro p e s m below meth c A ls En hsz hA hP hD hE hS hl
  have C : (dc_C p s m (([.ref h0] : List Value).toArray) meth c cM_look 2 (Option.none : Option Jvm.ClassFile.FieldType) yM_look ∧ cf_E D K A s s.heap ∧ ∀ q, s.heap.size ≤ q → A q) := ⟨En, hE, hA⟩
  exact bM_look_0 C (iM_look C cfFU) o0 r h hP hD hS hl
def IhM_leaves (p : Program) (l : Launch) (e : Env) (s : State) (m : MethodId) (below : List Frame) (meth : Method) (c : Code) (A : Nat → Prop) (D : va_G) (K : Nat → ClassId) (h0 : Nat) (a0 : Nat → Nat) (AR : Array Value) (n : Nat) : Prop := (∀ (o0 : cf_O) (r : cf_O), gM_leaves n 0 o0 = some r → ∀ {H : Heap} {locs : List Loc} {ls : Array Slot}, (va_P D vwCl (wM K h0 a0 o0) H) → (va_D A (wM K h0 a0 o0)) → va_S A s.heap H locs → lv_has ls 4 [(0, .ref h0)] → W p l e ({ frames := 2, cells := 0, slots := 0, locals := 41 }) s m AR below meth c H locs 0 0 (MQ below (va_Qv (fun (_ : Unit) => True) (fun (_ : Unit) t => cf_At D A (wM K h0 a0 r) t) A) AR s 0 0 A) (F0 m 34 ls []))
set_option maxHeartbeats 4000000 in
set_option maxRecDepth 100000 in
theorem bM_leaves_154 {p : Program} {l : Launch} {e : Env} {s : State} {m : MethodId} {below : List Frame} {meth : Method} {c : Code} {A : Nat → Prop} {D : va_G} {K : Nat → ClassId} {h0 : Nat} {a0 : Nat → Nat} {AR : Array Value} (C : (dc_C p s m AR meth c cM_leaves 4 (Option.none : Option Jvm.ClassFile.FieldType) yM_leaves ∧ cf_E D K A s s.heap ∧ ∀ q, s.heap.size ≤ q → A q)) {n : Nat} (ih : IhM_leaves p l e s m below meth c A D K h0 a0 AR n) (o0 : cf_O) (r : cf_O) (h : fM_leaves_154 (gM_leaves n) o0 = some r) {H : Heap} {locs : List Loc} {ls : Array Slot} (hP : va_P D vwCl (wM K h0 a0 o0) H) (hD : va_D A (wM K h0 a0 o0)) (hS : va_S A s.heap H locs) (hl : lv_has ls 4 [(0, .ref h0)]) : W p l e ({ frames := 2, cells := 0, slots := 0, locals := 41 }) s m AR below meth c H locs 0 0 (MQ below (va_Qv (fun (_ : Unit) => True) (fun (_ : Unit) t => cf_At D A (wM K h0 a0 r) t) A) AR s 0 0 A) (F0 m 154 ls []) := by
  obtain ⟨⟨hx, hb, hr, hts, hown, hlocks, hin, hml⟩, hE, hA⟩ := id C
  have hK := hE.k
  refine lv_goto (tgt := 34) hx hb dM_leaves_154 (by decide) ?_
  exact (ih) _ _ h hP hD hS (lv_sub hl [0] rfl)
set_option maxHeartbeats 4000000 in
set_option maxRecDepth 100000 in
theorem bM_leaves_34 {p : Program} {l : Launch} {e : Env} {s : State} {m : MethodId} {below : List Frame} {meth : Method} {c : Code} {A : Nat → Prop} {D : va_G} {K : Nat → ClassId} {h0 : Nat} {a0 : Nat → Nat} {AR : Array Value} (C : (dc_C p s m AR meth c cM_leaves 4 (Option.none : Option Jvm.ClassFile.FieldType) yM_leaves ∧ cf_E D K A s s.heap ∧ ∀ q, s.heap.size ≤ q → A q)) {n : Nat} (ih : IhM_leaves p l e s m below meth c A D K h0 a0 AR n) (o0 : cf_O) (r : cf_O) (h : fM_leaves_34 (gM_leaves n) o0 = some r) {H : Heap} {locs : List Loc} {ls : Array Slot} (hP : va_P D vwCl (wM K h0 a0 o0) H) (hD : va_D A (wM K h0 a0 o0)) (hS : va_S A s.heap H locs) (hl : lv_has ls 4 [(0, .ref h0)]) : W p l e ({ frames := 2, cells := 0, slots := 0, locals := 41 }) s m AR below meth c H locs 0 0 (MQ below (va_Qv (fun (_ : Unit) => True) (fun (_ : Unit) t => cf_At D A (wM K h0 a0 r) t) A) AR s 0 0 A) (F0 m 34 ls []) := by
  obtain ⟨⟨hx, hb, hr, hts, hown, hlocks, hin, hml⟩, hE, hA⟩ := id C
  have hK := hE.k
  refine lv_aload_n hx hb dM_leaves_34 rfl (lv_at hl 0 rfl) ?_
  refine va_get (D := D) (ci := 12) (v := .int (o0.1 54)) (C := RM) (T := TM) (N := 99) hx hb hts inM hown hK hP 0 rfl rfl 54 (by decide) (hts _ wv_2036) (fun _ h9 => h9) rfl dM_leaves_35 ?_
  refine lv_if_le (tgt := 157) hx hb dM_leaves_38 (by decide) (fun c_1 => ?_) (fun c_1 => ?_)
  · have h := op_t c_1 h
    obtain rfl := Option.some.inj h
    exact dc_vret hx hb hr hlocks rfl hP hD hS dM_leaves_157
  · have h := op_f c_1 h
    refine lv_aload_n hx hb dM_leaves_41 rfl (lv_at hl 0 rfl) ?_
    refine lv_dup hx hb dM_leaves_42 rfl ?_
    refine va_get (D := D) (ci := 12) (v := .int (o0.1 54)) (C := RM) (T := TM) (N := 99) hx hb hts inM hown hK hP 0 rfl rfl 54 (by decide) (hts _ wv_2036) (fun _ h9 => h9) rfl dM_leaves_43 ?_
    refine lv_iconst (v := 1) hx hb dM_leaves_46 (by decide) ?_
    refine lv_isub hx hb dM_leaves_47 ?_
    refine lv_topi (fun x_2 ex_2 => ?_)
    have h := op_ks ex_2 h
    refine va_put (D := D) (ci := 12) (v := .int x_2) (ty := .int) (C := RM) (T := TM) (N := 99) hx hb hts inM tyM tyokM nmM hown hK hP hD hS 0 rfl rfl 54 (by decide) (hts _ wv_2036) (fun _ h9 => h9) rfl (by decide +kernel) rfl rfl (Nat.le_of_ble_eq_true rfl) dM_leaves_48 (fun H locs hP hD hS => ?_)
    have hP : va_P D vwCl (wM K h0 a0 (fp o0 54 x_2)) H := hP
    have hD : va_D A (wM K h0 a0 (fp o0 54 x_2)) := hD
    obtain ⟨o_3, eo_3, h⟩ := op_kx h
    rw [← eo_3] at hP hD
    refine lv_aload_n hx hb dM_leaves_51 rfl (lv_at hl 0 rfl) ?_
    refine va_get (D := D) (ci := 12) (v := .ref (a0 55)) (C := RM) (T := TM) (N := 99) hx hb hts inM hown hK hP 0 rfl rfl 55 (by decide) (hts _ wv_2037) (fun _ h9 => h9) rfl dM_leaves_52 ?_
    refine lv_aload_n hx hb dM_leaves_55 rfl (lv_at hl 0 rfl) ?_
    refine va_get (D := D) (ci := 12) (v := .int (o_3.1 54)) (C := RM) (T := TM) (N := 99) hx hb hts inM hown hK hP 0 rfl rfl 54 (by decide) (hts _ wv_2036) (fun _ h9 => h9) rfl dM_leaves_56 ?_
    obtain ⟨hi_4, h⟩ := op_n h
    refine va_iald (D := D) hx hb hK hP 36 0 rfl rfl hi_4 dM_leaves_59 ?_
    refine lv_topi (fun x_5 ex_5 => ?_)
    have h := op_ks ex_5 h
    refine lv_istore_n (lv' := [(2, .int x_5), (0, .ref h0)]) hx hb dM_leaves_60 rfl hl (by decide) rfl (fun ls hl => ?_)
    refine lv_aload_n hx hb dM_leaves_61 rfl (lv_at hl 1 rfl) ?_
    refine lv_iload_n hx hb dM_leaves_62 rfl (lv_at hl 0 rfl) ?_
    obtain ⟨q_6, hq_6, h⟩ := op_b h
    refine dc_calli (va_runV (As := [.int x_5]) (rest := []) ⟨hx, hb, hml, hown, hts⟩ (mM_goesApart l D K _ x_5 h0 a0 o_3 _ hq_6) (cwV 1 hts (cf_GV wv_2436 wv_2438 wv_91 wv_173 wv_2439) rfl rfl rfl (by decide +kernel) ⟨Nat.le_of_ble_eq_true rfl, Nat.le_of_ble_eq_true rfl⟩) (dc_preV hE hP hD hS hA rfl 0 rfl) rfl rfl hl.1 rfl (lv_room (Nat.le_of_ble_eq_true rfl)) dM_leaves_63 ⟨Nat.le_of_ble_eq_true rfl, Nat.le_of_ble_eq_true rfl⟩) hP hD hS hA (fun r_7 H locs hw_8 hP hD hS => ?_)
    subst r_7
    refine lv_if_eq (tgt := 123) hx hb dM_leaves_66 (by decide) (fun c_9 => ?_) (fun c_9 => ?_)
    · have h := op_t c_9 h
      refine lv_aload_n hx hb dM_leaves_123 rfl (lv_at hl 1 rfl) ?_
      refine va_get (D := D) (ci := 12) (v := .ref (a0 53)) (C := RM) (T := TM) (N := 99) hx hb hts inM hown hK hP 0 rfl rfl 53 (by decide) (hts _ wv_2035) (fun _ h9 => h9) rfl dM_leaves_124 ?_
      refine lv_aload_n hx hb dM_leaves_127 rfl (lv_at hl 1 rfl) ?_
      refine va_get (D := D) (ci := 12) (v := .int (o_3.1 52)) (C := RM) (T := TM) (N := 99) hx hb hts inM hown hK hP 0 rfl rfl 52 (by decide) (hts _ wv_2034) (fun _ h9 => h9) rfl dM_leaves_128 ?_
      refine lv_aload_n hx hb dM_leaves_131 rfl (lv_at hl 1 rfl) ?_
      refine va_get (D := D) (ci := 12) (v := .ref (a0 51)) (C := RM) (T := TM) (N := 99) hx hb hts inM hown hK hP 0 rfl rfl 51 (by decide) (hts _ wv_2033) (fun _ h9 => h9) rfl dM_leaves_132 ?_
      refine lv_iload_n hx hb dM_leaves_135 rfl (lv_at hl 0 rfl) ?_
      refine lv_iconst (v := 2) hx hb dM_leaves_136 (by decide) ?_
      refine lv_idiv hx hb dM_leaves_137 (by decide) ?_
      refine lv_topi (fun x_10 ex_10 => ?_)
      have h := op_ks ex_10 h
      obtain ⟨hi_11, h⟩ := op_n h
      refine va_iald (D := D) hx hb hK hP 34 0 rfl rfl hi_11 dM_leaves_138 ?_
      refine lv_topi (fun x_12 ex_12 => ?_)
      have h := op_ks ex_12 h
      refine lv_iload_n hx hb dM_leaves_139 rfl (lv_at hl 0 rfl) ?_
      refine lv_iconst (v := 1) hx hb dM_leaves_140 (by decide) ?_
      refine lv_iand hx hb dM_leaves_141 ?_
      refine lv_topi (fun x_13 ex_13 => ?_)
      have h := op_ks ex_13 h
      refine lv_ixor hx hb dM_leaves_142 ?_
      refine lv_topi (fun x_14 ex_14 => ?_)
      have h := op_ks ex_14 h
      obtain ⟨hi_15, h⟩ := op_n h
      refine va_iast (D := D) hx hb hK hP hD hS 35 0 rfl rfl hi_15 dM_leaves_143 (fun H locs hP hD hS => ?_)
      have hP : va_P D vwCl (wM K h0 a0 (xp o_3 53 (o_3.1 52).toNatClampNeg x_14)) H := hP
      have hD : va_D A (wM K h0 a0 (xp o_3 53 (o_3.1 52).toNatClampNeg x_14)) := hD
      obtain ⟨o_16, eo_16, h⟩ := op_kx h
      rw [← eo_16] at hP hD
      refine lv_aload_n hx hb dM_leaves_144 rfl (lv_at hl 1 rfl) ?_
      refine lv_dup hx hb dM_leaves_145 rfl ?_
      refine va_get (D := D) (ci := 12) (v := .int (o_16.1 52)) (C := RM) (T := TM) (N := 99) hx hb hts inM hown hK hP 0 rfl rfl 52 (by decide) (hts _ wv_2034) (fun _ h9 => h9) rfl dM_leaves_146 ?_
      refine lv_iconst (v := 1) hx hb dM_leaves_149 (by decide) ?_
      refine lv_iadd hx hb dM_leaves_150 ?_
      refine lv_topi (fun x_17 ex_17 => ?_)
      have h := op_ks ex_17 h
      refine va_put (D := D) (ci := 12) (v := .int x_17) (ty := .int) (C := RM) (T := TM) (N := 99) hx hb hts inM tyM tyokM nmM hown hK hP hD hS 0 rfl rfl 52 (by decide) (hts _ wv_2034) (fun _ h9 => h9) rfl (by decide +kernel) rfl rfl (Nat.le_of_ble_eq_true rfl) dM_leaves_151 (fun H locs hP hD hS => ?_)
      have hP : va_P D vwCl (wM K h0 a0 (fp o_16 52 x_17)) H := hP
      have hD : va_D A (wM K h0 a0 (fp o_16 52 x_17)) := hD
      obtain ⟨o_18, eo_18, h⟩ := op_kx h
      rw [← eo_18] at hP hD
      exact bM_leaves_154 C ih _ _ h hP hD hS (lv_sub hl [1] rfl)
    · have h := op_f c_9 h
      refine lv_iload_n hx hb dM_leaves_69 rfl (lv_at hl 0 rfl) ?_
      refine lv_iconst (v := 2) hx hb dM_leaves_70 (by decide) ?_
      refine lv_idiv hx hb dM_leaves_71 (by decide) ?_
      refine lv_topi (fun x_19 ex_19 => ?_)
      have h := op_ks ex_19 h
      refine lv_aload_n hx hb dM_leaves_72 rfl (lv_at hl 1 rfl) ?_
      obtain ⟨q_20, hq_20, h⟩ := op_b h
      refine dc_calli (va_runV (As := []) (rest := [.int x_19]) ⟨hx, hb, hml, hown, hts⟩ (mM_base l D K _ h0 a0 o_3 _ hq_20) (cwV 0 hts (cf_GV wv_2412 wv_2414 wv_88 wv_173 wv_2415) rfl rfl rfl (by decide +kernel) ⟨Nat.le_of_ble_eq_true rfl, Nat.le_of_ble_eq_true rfl⟩) (dc_preV hE hP hD hS hA rfl 0 rfl) rfl rfl hl.1 rfl (lv_room (Nat.le_of_ble_eq_true rfl)) dM_leaves_73 ⟨Nat.le_of_ble_eq_true rfl, Nat.le_of_ble_eq_true rfl⟩) hP hD hS hA (fun r_21 H locs hw_22 hP hD hS => ?_)
      subst r_21
      refine lv_isub hx hb dM_leaves_76 ?_
      refine lv_topi (fun x_23 ex_23 => ?_)
      have h := op_ks ex_23 h
      refine lv_istore_n (lv' := [(3, .int x_23), (2, .int x_5), (0, .ref h0)]) hx hb dM_leaves_77 rfl hl (by decide) rfl (fun ls hl => ?_)
      refine lv_aload_n hx hb dM_leaves_78 rfl (lv_at hl 2 rfl) ?_
      refine va_get (D := D) (ci := 12) (v := .ref (a0 55)) (C := RM) (T := TM) (N := 99) hx hb hts inM hown hK hP 0 rfl rfl 55 (by decide) (hts _ wv_2037) (fun _ h9 => h9) rfl dM_leaves_79 ?_
      refine lv_aload_n hx hb dM_leaves_82 rfl (lv_at hl 2 rfl) ?_
      refine va_get (D := D) (ci := 12) (v := .int (o_3.1 54)) (C := RM) (T := TM) (N := 99) hx hb hts inM hown hK hP 0 rfl rfl 54 (by decide) (hts _ wv_2036) (fun _ h9 => h9) rfl dM_leaves_83 ?_
      refine lv_aload_n hx hb dM_leaves_86 rfl (lv_at hl 2 rfl) ?_
      refine va_get (D := D) (ci := 12) (v := .ref (a0 45)) (C := RM) (T := TM) (N := 99) hx hb hts inM hown hK hP 0 rfl rfl 45 (by decide) (hts _ wv_2027) (fun _ h9 => h9) rfl dM_leaves_87 ?_
      refine lv_iload_n hx hb dM_leaves_90 rfl (lv_at hl 0 rfl) ?_
      obtain ⟨hi_24, h⟩ := op_n h
      refine va_iald (D := D) hx hb hK hP 28 0 rfl rfl hi_24 dM_leaves_91 ?_
      refine lv_topi (fun x_25 ex_25 => ?_)
      have h := op_ks ex_25 h
      obtain ⟨hi_26, h⟩ := op_n h
      refine va_iast (D := D) hx hb hK hP hD hS 36 0 rfl rfl hi_26 dM_leaves_92 (fun H locs hP hD hS => ?_)
      have hP : va_P D vwCl (wM K h0 a0 (xp o_3 55 (o_3.1 54).toNatClampNeg x_25)) H := hP
      have hD : va_D A (wM K h0 a0 (xp o_3 55 (o_3.1 54).toNatClampNeg x_25)) := hD
      obtain ⟨o_27, eo_27, h⟩ := op_kx h
      rw [← eo_27] at hP hD
      refine lv_aload_n hx hb dM_leaves_93 rfl (lv_at hl 2 rfl) ?_
      refine va_get (D := D) (ci := 12) (v := .ref (a0 55)) (C := RM) (T := TM) (N := 99) hx hb hts inM hown hK hP 0 rfl rfl 55 (by decide) (hts _ wv_2037) (fun _ h9 => h9) rfl dM_leaves_94 ?_
      refine lv_aload_n hx hb dM_leaves_97 rfl (lv_at hl 2 rfl) ?_
      refine va_get (D := D) (ci := 12) (v := .int (o_27.1 54)) (C := RM) (T := TM) (N := 99) hx hb hts inM hown hK hP 0 rfl rfl 54 (by decide) (hts _ wv_2036) (fun _ h9 => h9) rfl dM_leaves_98 ?_
      refine lv_iconst (v := 1) hx hb dM_leaves_101 (by decide) ?_
      refine lv_iadd hx hb dM_leaves_102 ?_
      refine lv_topi (fun x_28 ex_28 => ?_)
      have h := op_ks ex_28 h
      refine lv_aload_n hx hb dM_leaves_103 rfl (lv_at hl 2 rfl) ?_
      refine va_get (D := D) (ci := 12) (v := .ref (a0 44)) (C := RM) (T := TM) (N := 99) hx hb hts inM hown hK hP 0 rfl rfl 44 (by decide) (hts _ wv_2026) (fun _ h9 => h9) rfl dM_leaves_104 ?_
      refine lv_iload_n hx hb dM_leaves_107 rfl (lv_at hl 0 rfl) ?_
      obtain ⟨hi_29, h⟩ := op_n h
      refine va_iald (D := D) hx hb hK hP 27 0 rfl rfl hi_29 dM_leaves_108 ?_
      refine lv_topi (fun x_30 ex_30 => ?_)
      have h := op_ks ex_30 h
      obtain ⟨hi_31, h⟩ := op_n h
      refine va_iast (D := D) hx hb hK hP hD hS 36 0 rfl rfl hi_31 dM_leaves_109 (fun H locs hP hD hS => ?_)
      have hP : va_P D vwCl (wM K h0 a0 (xp o_27 55 x_28.toNatClampNeg x_30)) H := hP
      have hD : va_D A (wM K h0 a0 (xp o_27 55 x_28.toNatClampNeg x_30)) := hD
      obtain ⟨o_32, eo_32, h⟩ := op_kx h
      rw [← eo_32] at hP hD
      refine lv_aload_n hx hb dM_leaves_110 rfl (lv_at hl 2 rfl) ?_
      refine lv_aload_n hx hb dM_leaves_111 rfl (lv_at hl 2 rfl) ?_
      refine va_get (D := D) (ci := 12) (v := .int (o_32.1 54)) (C := RM) (T := TM) (N := 99) hx hb hts inM hown hK hP 0 rfl rfl 54 (by decide) (hts _ wv_2036) (fun _ h9 => h9) rfl dM_leaves_112 ?_
      refine lv_iconst (v := 2) hx hb dM_leaves_115 (by decide) ?_
      refine lv_iadd hx hb dM_leaves_116 ?_
      refine lv_topi (fun x_33 ex_33 => ?_)
      have h := op_ks ex_33 h
      refine va_put (D := D) (ci := 12) (v := .int x_33) (ty := .int) (C := RM) (T := TM) (N := 99) hx hb hts inM tyM tyokM nmM hown hK hP hD hS 0 rfl rfl 54 (by decide) (hts _ wv_2036) (fun _ h9 => h9) rfl (by decide +kernel) rfl rfl (Nat.le_of_ble_eq_true rfl) dM_leaves_117 (fun H locs hP hD hS => ?_)
      have hP : va_P D vwCl (wM K h0 a0 (fp o_32 54 x_33)) H := hP
      have hD : va_D A (wM K h0 a0 (fp o_32 54 x_33)) := hD
      obtain ⟨o_34, eo_34, h⟩ := op_kx h
      rw [← eo_34] at hP hD
      refine lv_goto (tgt := 154) hx hb dM_leaves_120 (by decide) ?_
      exact bM_leaves_154 C ih _ _ h hP hD hS (lv_sub hl [2] rfl)
set_option maxHeartbeats 4000000 in
set_option maxRecDepth 100000 in
theorem bM_leaves_0 {p : Program} {l : Launch} {e : Env} {s : State} {m : MethodId} {below : List Frame} {meth : Method} {c : Code} {A : Nat → Prop} {D : va_G} {K : Nat → ClassId} {h0 : Nat} {a0 : Nat → Nat} {AR : Array Value} (C : (dc_C p s m AR meth c cM_leaves 4 (Option.none : Option Jvm.ClassFile.FieldType) yM_leaves ∧ cf_E D K A s s.heap ∧ ∀ q, s.heap.size ≤ q → A q)) {n : Nat} (ih : IhM_leaves p l e s m below meth c A D K h0 a0 AR n) (v1 : Int32) (o0 : cf_O) (r : cf_O) (h : fM_leaves_0 (gM_leaves n) v1 o0 = some r) {H : Heap} {locs : List Loc} {ls : Array Slot} (hP : va_P D vwCl (wM K h0 a0 o0) H) (hD : va_D A (wM K h0 a0 o0)) (hS : va_S A s.heap H locs) (hl : lv_has ls 4 [(0, .ref h0), (1, .int v1)]) : W p l e ({ frames := 2, cells := 0, slots := 0, locals := 41 }) s m AR below meth c H locs 0 0 (MQ below (va_Qv (fun (_ : Unit) => True) (fun (_ : Unit) t => cf_At D A (wM K h0 a0 r) t) A) AR s 0 0 A) (F0 m 0 ls []) := by
  obtain ⟨⟨hx, hb, hr, hts, hown, hlocks, hin, hml⟩, hE, hA⟩ := id C
  have hK := hE.k
  refine lv_aload_n hx hb dM_leaves_0 rfl (lv_at hl 0 rfl) ?_
  refine lv_iconst (v := 0) hx hb dM_leaves_1 (by decide) ?_
  refine va_put (D := D) (ci := 12) (v := .int 0) (ty := .int) (C := RM) (T := TM) (N := 99) hx hb hts inM tyM tyokM nmM hown hK hP hD hS 0 rfl rfl 52 (by decide) (hts _ wv_2034) (fun _ h9 => h9) rfl (by decide +kernel) rfl rfl (Nat.le_of_ble_eq_true rfl) dM_leaves_2 (fun H locs hP hD hS => ?_)
  have hP : va_P D vwCl (wM K h0 a0 (fp o0 52 0)) H := hP
  have hD : va_D A (wM K h0 a0 (fp o0 52 0)) := hD
  obtain ⟨o_1, eo_1, h⟩ := op_kx h
  rw [← eo_1] at hP hD
  refine lv_aload_n hx hb dM_leaves_5 rfl (lv_at hl 0 rfl) ?_
  refine lv_iconst (v := 2) hx hb dM_leaves_6 (by decide) ?_
  refine va_put (D := D) (ci := 12) (v := .int 2) (ty := .int) (C := RM) (T := TM) (N := 99) hx hb hts inM tyM tyokM nmM hown hK hP hD hS 0 rfl rfl 54 (by decide) (hts _ wv_2036) (fun _ h9 => h9) rfl (by decide +kernel) rfl rfl (Nat.le_of_ble_eq_true rfl) dM_leaves_7 (fun H locs hP hD hS => ?_)
  have hP : va_P D vwCl (wM K h0 a0 (fp o_1 54 2)) H := hP
  have hD : va_D A (wM K h0 a0 (fp o_1 54 2)) := hD
  obtain ⟨o_2, eo_2, h⟩ := op_kx h
  rw [← eo_2] at hP hD
  refine lv_aload_n hx hb dM_leaves_10 rfl (lv_at hl 0 rfl) ?_
  refine va_get (D := D) (ci := 12) (v := .ref (a0 55)) (C := RM) (T := TM) (N := 99) hx hb hts inM hown hK hP 0 rfl rfl 55 (by decide) (hts _ wv_2037) (fun _ h9 => h9) rfl dM_leaves_11 ?_
  refine lv_iconst (v := 0) hx hb dM_leaves_14 (by decide) ?_
  refine lv_aload_n hx hb dM_leaves_15 rfl (lv_at hl 0 rfl) ?_
  refine va_get (D := D) (ci := 12) (v := .ref (a0 45)) (C := RM) (T := TM) (N := 99) hx hb hts inM hown hK hP 0 rfl rfl 45 (by decide) (hts _ wv_2027) (fun _ h9 => h9) rfl dM_leaves_16 ?_
  refine lv_iload_n hx hb dM_leaves_19 rfl (lv_at hl 1 rfl) ?_
  obtain ⟨hi_3, h⟩ := op_n h
  refine va_iald (D := D) hx hb hK hP 28 0 rfl rfl hi_3 dM_leaves_20 ?_
  refine lv_topi (fun x_4 ex_4 => ?_)
  have h := op_ks ex_4 h
  obtain ⟨hi_5, h⟩ := op_n h
  refine va_iast (D := D) hx hb hK hP hD hS 36 0 rfl rfl hi_5 dM_leaves_21 (fun H locs hP hD hS => ?_)
  have hP : va_P D vwCl (wM K h0 a0 (xp o_2 55 (0 : Int32).toNatClampNeg x_4)) H := hP
  have hD : va_D A (wM K h0 a0 (xp o_2 55 (0 : Int32).toNatClampNeg x_4)) := hD
  obtain ⟨o_6, eo_6, h⟩ := op_kx h
  rw [← eo_6] at hP hD
  refine lv_aload_n hx hb dM_leaves_22 rfl (lv_at hl 0 rfl) ?_
  refine va_get (D := D) (ci := 12) (v := .ref (a0 55)) (C := RM) (T := TM) (N := 99) hx hb hts inM hown hK hP 0 rfl rfl 55 (by decide) (hts _ wv_2037) (fun _ h9 => h9) rfl dM_leaves_23 ?_
  refine lv_iconst (v := 1) hx hb dM_leaves_26 (by decide) ?_
  refine lv_aload_n hx hb dM_leaves_27 rfl (lv_at hl 0 rfl) ?_
  refine va_get (D := D) (ci := 12) (v := .ref (a0 44)) (C := RM) (T := TM) (N := 99) hx hb hts inM hown hK hP 0 rfl rfl 44 (by decide) (hts _ wv_2026) (fun _ h9 => h9) rfl dM_leaves_28 ?_
  refine lv_iload_n hx hb dM_leaves_31 rfl (lv_at hl 1 rfl) ?_
  obtain ⟨hi_7, h⟩ := op_n h
  refine va_iald (D := D) hx hb hK hP 27 0 rfl rfl hi_7 dM_leaves_32 ?_
  refine lv_topi (fun x_8 ex_8 => ?_)
  have h := op_ks ex_8 h
  obtain ⟨hi_9, h⟩ := op_n h
  refine va_iast (D := D) hx hb hK hP hD hS 36 0 rfl rfl hi_9 dM_leaves_33 (fun H locs hP hD hS => ?_)
  have hP : va_P D vwCl (wM K h0 a0 (xp o_6 55 (1 : Int32).toNatClampNeg x_8)) H := hP
  have hD : va_D A (wM K h0 a0 (xp o_6 55 (1 : Int32).toNatClampNeg x_8)) := hD
  obtain ⟨o_10, eo_10, h⟩ := op_kx h
  rw [← eo_10] at hP hD
  exact (ih) _ _ h hP hD hS (lv_sub hl [0] rfl)
theorem iM_leaves {p : Program} {l : Launch} {e : Env} {s : State} {m : MethodId} {below : List Frame} {meth : Method} {c : Code} {A : Nat → Prop} {D : va_G} {K : Nat → ClassId} {h0 : Nat} {a0 : Nat → Nat} {AR : Array Value} (C : (dc_C p s m AR meth c cM_leaves 4 (Option.none : Option Jvm.ClassFile.FieldType) yM_leaves ∧ cf_E D K A s s.heap ∧ ∀ q, s.heap.size ≤ q → A q)) : ∀ n, IhM_leaves p l e s m below meth c A D K h0 a0 AR n := by
  intro n
  induction n with
  | zero => exact (fun _ r h => by cases (show none = some r from h))
  | succ n ih => exact fun x0 r h _ _ _ hP hD hS hl => bM_leaves_34 C ih x0 r h hP hD hS hl
set_option maxRecDepth 100000 in
theorem mM_leaves (l : Launch) (D : va_G) (K : Nat → ClassId) (sz : Nat) (v1 : Int32) (h0 : Nat) (a0 : Nat → Nat) (o0 : cf_O) (r : cf_O) (h : fM_leaves v1 o0 = some r) : Met l yM_leaves (Cond.code yM_leaves cM_leaves 4 (Option.none : Option Jvm.ClassFile.FieldType) :: cfB) ({ frames := 2, cells := 0, slots := 0, locals := 41 }) (va_Pc [.ref h0, .int v1] (cf_Pre D K sz (wM K h0 a0 o0))) (va_Qv (fun (_ : Unit) => True) (fun (_ : Unit) t => cf_At D (va_A (wM K h0 a0 o0) sz) (wM K h0 a0 r) t) (va_A (wM K h0 a0 o0) sz)) 0 0 (va_A (wM K h0 a0 o0) sz) := by
  refine cf_ofW (y := yM_leaves) (As := [.ref h0, .int v1]) (WS := wM K h0 a0 o0) (maxL := 4) (fun A => (va_Qv (fun (_ : Unit) => True) (fun (_ : Unit) t => cf_At D A (wM K h0 a0 r) t) A)) (by decide) (Nat.le_of_ble_eq_true rfl) ?_
  intro p e s m below meth c A ls En hsz hA hP hD hE hS hl
  have C : (dc_C p s m (([.ref h0, .int v1] : List Value).toArray) meth c cM_leaves 4 (Option.none : Option Jvm.ClassFile.FieldType) yM_leaves ∧ cf_E D K A s s.heap ∧ ∀ q, s.heap.size ≤ q → A q) := ⟨En, hE, hA⟩
  exact bM_leaves_0 C (iM_leaves C cfFU) v1 o0 r h hP hD hS hl
def IhM_takeLeast (p : Program) (l : Launch) (e : Env) (s : State) (m : MethodId) (below : List Frame) (meth : Method) (c : Code) (A : Nat → Prop) (D : va_G) (K : Nat → ClassId) (h0 : Nat) (a0 : Nat → Nat) (AR : Array Value) (n : Nat) : Prop := (∀ (v1 : Int32) (v2 : Int32) (o0 : cf_O) (r : Int32 × cf_O), gM_takeLeast n 0 v1 v2 0 o0 = some r → ∀ {H : Heap} {locs : List Loc} {ls : Array Slot}, (va_P D vwCl (wM K h0 a0 o0) H) → (va_D A (wM K h0 a0 o0)) → va_S A s.heap H locs → lv_has ls 4 [(0, .ref h0), (1, .int v1), (2, .int v2)] → W p l e ({ frames := 0, cells := 0, slots := 0, locals := 0 }) s m AR below meth c H locs 0 0 (MQ below (va_Qi (fun (x : Int32) (_ : Unit) => x = r.1) (fun (_ : Unit) t => cf_At D A (wM K h0 a0 r.2) t) A) AR s 0 0 A) (F0 m 4 ls [])) ∧ (∀ (v2 : Int32) (v3 : Int32) (o0 : cf_O) (r : Int32 × cf_O), gM_takeLeast n 1 0 v2 v3 o0 = some r → ∀ {H : Heap} {locs : List Loc} {ls : Array Slot}, (va_P D vwCl (wM K h0 a0 o0) H) → (va_D A (wM K h0 a0 o0)) → va_S A s.heap H locs → lv_has ls 4 [(0, .ref h0), (2, .int v2), (3, .int v3)] → W p l e ({ frames := 0, cells := 0, slots := 0, locals := 0 }) s m AR below meth c H locs 0 0 (MQ below (va_Qi (fun (x : Int32) (_ : Unit) => x = r.1) (fun (_ : Unit) t => cf_At D A (wM K h0 a0 r.2) t) A) AR s 0 0 A) (F0 m 72 ls []))
set_option maxHeartbeats 4000000 in
set_option maxRecDepth 100000 in
theorem bM_takeLeast_72 {p : Program} {l : Launch} {e : Env} {s : State} {m : MethodId} {below : List Frame} {meth : Method} {c : Code} {A : Nat → Prop} {D : va_G} {K : Nat → ClassId} {h0 : Nat} {a0 : Nat → Nat} {AR : Array Value} (C : (dc_C p s m AR meth c cM_takeLeast 4 (Option.some Jvm.ClassFile.FieldType.int) yM_takeLeast ∧ cf_E D K A s s.heap ∧ ∀ q, s.heap.size ≤ q → A q)) {n : Nat} (ih : IhM_takeLeast p l e s m below meth c A D K h0 a0 AR n) (v2 : Int32) (v3 : Int32) (o0 : cf_O) (r : Int32 × cf_O) (h : fM_takeLeast_72 (gM_takeLeast n) v2 v3 o0 = some r) {H : Heap} {locs : List Loc} {ls : Array Slot} (hP : va_P D vwCl (wM K h0 a0 o0) H) (hD : va_D A (wM K h0 a0 o0)) (hS : va_S A s.heap H locs) (hl : lv_has ls 4 [(0, .ref h0), (2, .int v2), (3, .int v3)]) : W p l e ({ frames := 0, cells := 0, slots := 0, locals := 0 }) s m AR below meth c H locs 0 0 (MQ below (va_Qi (fun (x : Int32) (_ : Unit) => x = r.1) (fun (_ : Unit) t => cf_At D A (wM K h0 a0 r.2) t) A) AR s 0 0 A) (F0 m 72 ls []) := by
  obtain ⟨⟨hx, hb, hr, hts, hown, hlocks, hin, hml⟩, hE, hA⟩ := id C
  have hK := hE.k
  refine lv_iload_n hx hb dM_takeLeast_72 rfl (lv_at hl 2 rfl) ?_
  refine lv_aload_n hx hb dM_takeLeast_73 rfl (lv_at hl 0 rfl) ?_
  refine va_get (D := D) (ci := 12) (v := .int (o0.1 52)) (C := RM) (T := TM) (N := 99) hx hb hts inM hown hK hP 0 rfl rfl 52 (by decide) (hts _ wv_2034) (fun _ h9 => h9) rfl dM_takeLeast_74 ?_
  refine lv_icmp_ge (tgt := 100) hx hb dM_takeLeast_77 (by decide) (fun c_1 => ?_) (fun c_1 => ?_)
  · have h := op_t c_1 h
    refine lv_iload_n hx hb dM_takeLeast_100 rfl (lv_at hl 1 rfl) ?_
    obtain rfl := Option.some.inj h
    exact dc_iret hx hb hr hlocks rfl hP hD hS dM_takeLeast_101
  · have h := op_f c_1 h
    refine lv_aload_n hx hb dM_takeLeast_80 rfl (lv_at hl 0 rfl) ?_
    refine va_get (D := D) (ci := 12) (v := .ref (a0 53)) (C := RM) (T := TM) (N := 99) hx hb hts inM hown hK hP 0 rfl rfl 53 (by decide) (hts _ wv_2035) (fun _ h9 => h9) rfl dM_takeLeast_81 ?_
    refine lv_iload_n hx hb dM_takeLeast_84 rfl (lv_at hl 2 rfl) ?_
    refine lv_aload_n hx hb dM_takeLeast_85 rfl (lv_at hl 0 rfl) ?_
    refine va_get (D := D) (ci := 12) (v := .ref (a0 53)) (C := RM) (T := TM) (N := 99) hx hb hts inM hown hK hP 0 rfl rfl 53 (by decide) (hts _ wv_2035) (fun _ h9 => h9) rfl dM_takeLeast_86 ?_
    refine lv_iload_n hx hb dM_takeLeast_89 rfl (lv_at hl 2 rfl) ?_
    refine lv_iconst (v := 1) hx hb dM_takeLeast_90 (by decide) ?_
    refine lv_iadd hx hb dM_takeLeast_91 ?_
    refine lv_topi (fun x_2 ex_2 => ?_)
    have h := op_ks ex_2 h
    obtain ⟨hi_3, h⟩ := op_n h
    refine va_iald (D := D) hx hb hK hP 35 0 rfl rfl hi_3 dM_takeLeast_92 ?_
    refine lv_topi (fun x_4 ex_4 => ?_)
    have h := op_ks ex_4 h
    obtain ⟨hi_5, h⟩ := op_n h
    refine va_iast (D := D) hx hb hK hP hD hS 35 0 rfl rfl hi_5 dM_takeLeast_93 (fun H locs hP hD hS => ?_)
    have hP : va_P D vwCl (wM K h0 a0 (xp o0 53 v3.toNatClampNeg x_4)) H := hP
    have hD : va_D A (wM K h0 a0 (xp o0 53 v3.toNatClampNeg x_4)) := hD
    obtain ⟨o_6, eo_6, h⟩ := op_kx h
    rw [← eo_6] at hP hD
    obtain ⟨x_7, ex_7⟩ : ∃ y : Int32, y = v3 + 1 := ⟨_, rfl⟩
    refine lv_iinc (v := x_7) (lv' := [(3, .int x_7), (0, .ref h0), (2, .int v2)]) hx hb dM_takeLeast_94 hl (k := 2) rfl (by rw [ex_7]; rfl) (by decide) rfl (fun ls hl => ?_)
    have h := op_ks ex_7 h
    refine lv_goto (tgt := 72) hx hb dM_takeLeast_97 (by decide) ?_
    exact (ih.2) _ _ _ _ h hP hD hS (lv_sub hl [1, 2, 0] rfl)
set_option maxHeartbeats 4000000 in
set_option maxRecDepth 100000 in
theorem bM_takeLeast_46 {p : Program} {l : Launch} {e : Env} {s : State} {m : MethodId} {below : List Frame} {meth : Method} {c : Code} {A : Nat → Prop} {D : va_G} {K : Nat → ClassId} {h0 : Nat} {a0 : Nat → Nat} {AR : Array Value} (C : (dc_C p s m AR meth c cM_takeLeast 4 (Option.some Jvm.ClassFile.FieldType.int) yM_takeLeast ∧ cf_E D K A s s.heap ∧ ∀ q, s.heap.size ≤ q → A q)) {n : Nat} (ih : IhM_takeLeast p l e s m below meth c A D K h0 a0 AR n) (v2 : Int32) (s0 : Int32) (o0 : cf_O) (r : Int32 × cf_O) (h : fM_takeLeast_46 (gM_takeLeast n) v2 s0 o0 = some r) {H : Heap} {locs : List Loc} {ls : Array Slot} (hP : va_P D vwCl (wM K h0 a0 o0) H) (hD : va_D A (wM K h0 a0 o0)) (hS : va_S A s.heap H locs) (hl : lv_has ls 4 [(0, .ref h0), (2, .int v2)]) : W p l e ({ frames := 0, cells := 0, slots := 0, locals := 0 }) s m AR below meth c H locs 0 0 (MQ below (va_Qi (fun (x : Int32) (_ : Unit) => x = r.1) (fun (_ : Unit) t => cf_At D A (wM K h0 a0 r.2) t) A) AR s 0 0 A) (F0 m 46 ls [.int s0]) := by
  obtain ⟨⟨hx, hb, hr, hts, hown, hlocks, hin, hml⟩, hE, hA⟩ := id C
  have hK := hE.k
  refine lv_istore_n (lv' := [(1, .int s0), (0, .ref h0), (2, .int v2)]) hx hb dM_takeLeast_46 rfl hl (by decide) rfl (fun ls hl => ?_)
  obtain ⟨x_1, ex_1⟩ : ∃ y : Int32, y = v2 + 1 := ⟨_, rfl⟩
  refine lv_iinc (v := x_1) (lv' := [(2, .int x_1), (1, .int s0), (0, .ref h0)]) hx hb dM_takeLeast_47 hl (k := 2) rfl (by rw [ex_1]; rfl) (by decide) rfl (fun ls hl => ?_)
  have h := op_ks ex_1 h
  refine lv_goto (tgt := 4) hx hb dM_takeLeast_50 (by decide) ?_
  exact (ih.1) _ _ _ _ h hP hD hS (lv_sub hl [2, 1, 0] rfl)
set_option maxHeartbeats 4000000 in
set_option maxRecDepth 100000 in
theorem bM_takeLeast_4 {p : Program} {l : Launch} {e : Env} {s : State} {m : MethodId} {below : List Frame} {meth : Method} {c : Code} {A : Nat → Prop} {D : va_G} {K : Nat → ClassId} {h0 : Nat} {a0 : Nat → Nat} {AR : Array Value} (C : (dc_C p s m AR meth c cM_takeLeast 4 (Option.some Jvm.ClassFile.FieldType.int) yM_takeLeast ∧ cf_E D K A s s.heap ∧ ∀ q, s.heap.size ≤ q → A q)) {n : Nat} (ih : IhM_takeLeast p l e s m below meth c A D K h0 a0 AR n) (v1 : Int32) (v2 : Int32) (o0 : cf_O) (r : Int32 × cf_O) (h : fM_takeLeast_4 (gM_takeLeast n) v1 v2 o0 = some r) {H : Heap} {locs : List Loc} {ls : Array Slot} (hP : va_P D vwCl (wM K h0 a0 o0) H) (hD : va_D A (wM K h0 a0 o0)) (hS : va_S A s.heap H locs) (hl : lv_has ls 4 [(0, .ref h0), (1, .int v1), (2, .int v2)]) : W p l e ({ frames := 0, cells := 0, slots := 0, locals := 0 }) s m AR below meth c H locs 0 0 (MQ below (va_Qi (fun (x : Int32) (_ : Unit) => x = r.1) (fun (_ : Unit) t => cf_At D A (wM K h0 a0 r.2) t) A) AR s 0 0 A) (F0 m 4 ls []) := by
  obtain ⟨⟨hx, hb, hr, hts, hown, hlocks, hin, hml⟩, hE, hA⟩ := id C
  have hK := hE.k
  refine lv_iload_n hx hb dM_takeLeast_4 rfl (lv_at hl 2 rfl) ?_
  refine lv_aload_n hx hb dM_takeLeast_5 rfl (lv_at hl 0 rfl) ?_
  refine va_get (D := D) (ci := 12) (v := .int (o0.1 52)) (C := RM) (T := TM) (N := 99) hx hb hts inM hown hK hP 0 rfl rfl 52 (by decide) (hts _ wv_2034) (fun _ h9 => h9) rfl dM_takeLeast_6 ?_
  refine lv_icmp_ge (tgt := 53) hx hb dM_takeLeast_9 (by decide) (fun c_1 => ?_) (fun c_1 => ?_)
  · have h := op_t c_1 h
    refine lv_aload_n hx hb dM_takeLeast_53 rfl (lv_at hl 0 rfl) ?_
    refine va_get (D := D) (ci := 12) (v := .ref (a0 53)) (C := RM) (T := TM) (N := 99) hx hb hts inM hown hK hP 0 rfl rfl 53 (by decide) (hts _ wv_2035) (fun _ h9 => h9) rfl dM_takeLeast_54 ?_
    refine lv_iload_n hx hb dM_takeLeast_57 rfl (lv_at hl 1 rfl) ?_
    obtain ⟨hi_2, h⟩ := op_n h
    refine va_iald (D := D) hx hb hK hP 35 0 rfl rfl hi_2 dM_takeLeast_58 ?_
    refine lv_topi (fun x_3 ex_3 => ?_)
    have h := op_ks ex_3 h
    refine lv_istore_n (lv' := [(2, .int x_3), (0, .ref h0), (1, .int v1)]) hx hb dM_takeLeast_59 rfl hl (by decide) rfl (fun ls hl => ?_)
    refine lv_aload_n hx hb dM_takeLeast_60 rfl (lv_at hl 1 rfl) ?_
    refine lv_dup hx hb dM_takeLeast_61 rfl ?_
    refine va_get (D := D) (ci := 12) (v := .int (o0.1 52)) (C := RM) (T := TM) (N := 99) hx hb hts inM hown hK hP 0 rfl rfl 52 (by decide) (hts _ wv_2034) (fun _ h9 => h9) rfl dM_takeLeast_62 ?_
    refine lv_iconst (v := 1) hx hb dM_takeLeast_65 (by decide) ?_
    refine lv_isub hx hb dM_takeLeast_66 ?_
    refine lv_topi (fun x_4 ex_4 => ?_)
    have h := op_ks ex_4 h
    refine va_put (D := D) (ci := 12) (v := .int x_4) (ty := .int) (C := RM) (T := TM) (N := 99) hx hb hts inM tyM tyokM nmM hown hK hP hD hS 0 rfl rfl 52 (by decide) (hts _ wv_2034) (fun _ h9 => h9) rfl (by decide +kernel) rfl rfl (Nat.le_of_ble_eq_true rfl) dM_takeLeast_67 (fun H locs hP hD hS => ?_)
    have hP : va_P D vwCl (wM K h0 a0 (fp o0 52 x_4)) H := hP
    have hD : va_D A (wM K h0 a0 (fp o0 52 x_4)) := hD
    obtain ⟨o_5, eo_5, h⟩ := op_kx h
    rw [← eo_5] at hP hD
    refine lv_iload_n hx hb dM_takeLeast_70 rfl (lv_at hl 2 rfl) ?_
    refine lv_istore_n (lv' := [(3, .int v1), (2, .int x_3), (0, .ref h0), (1, .int v1)]) hx hb dM_takeLeast_71 rfl hl (by decide) rfl (fun ls hl => ?_)
    exact (ih.2) _ _ _ _ h hP hD hS (lv_sub hl [2, 1, 0] rfl)
  · have h := op_f c_1 h
    refine lv_aload_n hx hb dM_takeLeast_12 rfl (lv_at hl 0 rfl) ?_
    refine va_get (D := D) (ci := 12) (v := .ref (a0 34)) (C := RM) (T := TM) (N := 99) hx hb hts inM hown hK hP 0 rfl rfl 34 (by decide) (hts _ wv_2016) (fun _ h9 => h9) rfl dM_takeLeast_13 ?_
    refine lv_aload_n hx hb dM_takeLeast_16 rfl (lv_at hl 0 rfl) ?_
    refine va_get (D := D) (ci := 12) (v := .ref (a0 53)) (C := RM) (T := TM) (N := 99) hx hb hts inM hown hK hP 0 rfl rfl 53 (by decide) (hts _ wv_2035) (fun _ h9 => h9) rfl dM_takeLeast_17 ?_
    refine lv_iload_n hx hb dM_takeLeast_20 rfl (lv_at hl 2 rfl) ?_
    obtain ⟨hi_6, h⟩ := op_n h
    refine va_iald (D := D) hx hb hK hP 35 0 rfl rfl hi_6 dM_takeLeast_21 ?_
    refine lv_topi (fun x_7 ex_7 => ?_)
    have h := op_ks ex_7 h
    refine lv_iconst (v := 2) hx hb dM_takeLeast_22 (by decide) ?_
    refine lv_idiv hx hb dM_takeLeast_23 (by decide) ?_
    refine lv_topi (fun x_8 ex_8 => ?_)
    have h := op_ks ex_8 h
    obtain ⟨hi_9, h⟩ := op_n h
    refine va_iald (D := D) hx hb hK hP 23 0 rfl rfl hi_9 dM_takeLeast_24 ?_
    refine lv_topi (fun x_10 ex_10 => ?_)
    have h := op_ks ex_10 h
    refine lv_aload_n hx hb dM_takeLeast_25 rfl (lv_at hl 0 rfl) ?_
    refine va_get (D := D) (ci := 12) (v := .ref (a0 34)) (C := RM) (T := TM) (N := 99) hx hb hts inM hown hK hP 0 rfl rfl 34 (by decide) (hts _ wv_2016) (fun _ h9 => h9) rfl dM_takeLeast_26 ?_
    refine lv_aload_n hx hb dM_takeLeast_29 rfl (lv_at hl 0 rfl) ?_
    refine va_get (D := D) (ci := 12) (v := .ref (a0 53)) (C := RM) (T := TM) (N := 99) hx hb hts inM hown hK hP 0 rfl rfl 53 (by decide) (hts _ wv_2035) (fun _ h9 => h9) rfl dM_takeLeast_30 ?_
    refine lv_iload_n hx hb dM_takeLeast_33 rfl (lv_at hl 1 rfl) ?_
    obtain ⟨hi_11, h⟩ := op_n h
    refine va_iald (D := D) hx hb hK hP 35 0 rfl rfl hi_11 dM_takeLeast_34 ?_
    refine lv_topi (fun x_12 ex_12 => ?_)
    have h := op_ks ex_12 h
    refine lv_iconst (v := 2) hx hb dM_takeLeast_35 (by decide) ?_
    refine lv_idiv hx hb dM_takeLeast_36 (by decide) ?_
    refine lv_topi (fun x_13 ex_13 => ?_)
    have h := op_ks ex_13 h
    obtain ⟨hi_14, h⟩ := op_n h
    refine va_iald (D := D) hx hb hK hP 23 0 rfl rfl hi_14 dM_takeLeast_37 ?_
    refine lv_topi (fun x_15 ex_15 => ?_)
    have h := op_ks ex_15 h
    refine lv_icmp_ge (tgt := 45) hx hb dM_takeLeast_38 (by decide) (fun c_16 => ?_) (fun c_16 => ?_)
    · have h := op_t c_16 h
      refine lv_iload_n hx hb dM_takeLeast_45 rfl (lv_at hl 1 rfl) ?_
      exact bM_takeLeast_46 C ih _ _ _ _ h hP hD hS (lv_sub hl [0, 2] rfl)
    · have h := op_f c_16 h
      refine lv_iload_n hx hb dM_takeLeast_41 rfl (lv_at hl 2 rfl) ?_
      refine lv_goto (tgt := 46) hx hb dM_takeLeast_42 (by decide) ?_
      exact bM_takeLeast_46 C ih _ _ _ _ h hP hD hS (lv_sub hl [0, 2] rfl)
set_option maxHeartbeats 4000000 in
set_option maxRecDepth 100000 in
theorem bM_takeLeast_0 {p : Program} {l : Launch} {e : Env} {s : State} {m : MethodId} {below : List Frame} {meth : Method} {c : Code} {A : Nat → Prop} {D : va_G} {K : Nat → ClassId} {h0 : Nat} {a0 : Nat → Nat} {AR : Array Value} (C : (dc_C p s m AR meth c cM_takeLeast 4 (Option.some Jvm.ClassFile.FieldType.int) yM_takeLeast ∧ cf_E D K A s s.heap ∧ ∀ q, s.heap.size ≤ q → A q)) {n : Nat} (ih : IhM_takeLeast p l e s m below meth c A D K h0 a0 AR n) (o0 : cf_O) (r : Int32 × cf_O) (h : fM_takeLeast_0 (gM_takeLeast n) o0 = some r) {H : Heap} {locs : List Loc} {ls : Array Slot} (hP : va_P D vwCl (wM K h0 a0 o0) H) (hD : va_D A (wM K h0 a0 o0)) (hS : va_S A s.heap H locs) (hl : lv_has ls 4 [(0, .ref h0)]) : W p l e ({ frames := 0, cells := 0, slots := 0, locals := 0 }) s m AR below meth c H locs 0 0 (MQ below (va_Qi (fun (x : Int32) (_ : Unit) => x = r.1) (fun (_ : Unit) t => cf_At D A (wM K h0 a0 r.2) t) A) AR s 0 0 A) (F0 m 0 ls []) := by
  obtain ⟨⟨hx, hb, hr, hts, hown, hlocks, hin, hml⟩, hE, hA⟩ := id C
  have hK := hE.k
  refine lv_iconst (v := 0) hx hb dM_takeLeast_0 (by decide) ?_
  refine lv_istore_n (lv' := [(1, .int 0), (0, .ref h0)]) hx hb dM_takeLeast_1 rfl hl (by decide) rfl (fun ls hl => ?_)
  refine lv_iconst (v := 1) hx hb dM_takeLeast_2 (by decide) ?_
  refine lv_istore_n (lv' := [(2, .int 1), (1, .int 0), (0, .ref h0)]) hx hb dM_takeLeast_3 rfl hl (by decide) rfl (fun ls hl => ?_)
  exact (ih.1) _ _ _ _ h hP hD hS (lv_sub hl [2, 1, 0] rfl)
theorem iM_takeLeast {p : Program} {l : Launch} {e : Env} {s : State} {m : MethodId} {below : List Frame} {meth : Method} {c : Code} {A : Nat → Prop} {D : va_G} {K : Nat → ClassId} {h0 : Nat} {a0 : Nat → Nat} {AR : Array Value} (C : (dc_C p s m AR meth c cM_takeLeast 4 (Option.some Jvm.ClassFile.FieldType.int) yM_takeLeast ∧ cf_E D K A s s.heap ∧ ∀ q, s.heap.size ≤ q → A q)) : ∀ n, IhM_takeLeast p l e s m below meth c A D K h0 a0 AR n := by
  intro n
  induction n with
  | zero => exact ⟨(fun _ _ _ r h => by cases (show none = some r from h)), (fun _ _ _ r h => by cases (show none = some r from h))⟩
  | succ n ih => exact ⟨fun x0 x1 x2 r h _ _ _ hP hD hS hl => bM_takeLeast_4 C ih x0 x1 x2 r h hP hD hS hl, fun x0 x1 x2 r h _ _ _ hP hD hS hl => bM_takeLeast_72 C ih x0 x1 x2 r h hP hD hS hl⟩
set_option maxRecDepth 100000 in
theorem mM_takeLeast (l : Launch) (D : va_G) (K : Nat → ClassId) (sz : Nat) (h0 : Nat) (a0 : Nat → Nat) (o0 : cf_O) (r : Int32 × cf_O) (h : fM_takeLeast o0 = some r) : Met l yM_takeLeast (Cond.code yM_takeLeast cM_takeLeast 4 (Option.some Jvm.ClassFile.FieldType.int) :: cfB) ({ frames := 0, cells := 0, slots := 0, locals := 0 }) (va_Pc [.ref h0] (cf_Pre D K sz (wM K h0 a0 o0))) (va_Qi (fun (x : Int32) (_ : Unit) => x = r.1) (fun (_ : Unit) t => cf_At D (va_A (wM K h0 a0 o0) sz) (wM K h0 a0 r.2) t) (va_A (wM K h0 a0 o0) sz)) 0 0 (va_A (wM K h0 a0 o0) sz) := by
  refine cf_ofW (y := yM_takeLeast) (As := [.ref h0]) (WS := wM K h0 a0 o0) (maxL := 4) (fun A => (va_Qi (fun (x : Int32) (_ : Unit) => x = r.1) (fun (_ : Unit) t => cf_At D A (wM K h0 a0 r.2) t) A)) (by decide) (Nat.le_of_ble_eq_true rfl) ?_
  intro p e s m below meth c A ls En hsz hA hP hD hE hS hl
  have C : (dc_C p s m (([.ref h0] : List Value).toArray) meth c cM_takeLeast 4 (Option.some Jvm.ClassFile.FieldType.int) yM_takeLeast ∧ cf_E D K A s s.heap ∧ ∀ q, s.heap.size ≤ q → A q) := ⟨En, hE, hA⟩
  exact bM_takeLeast_0 C (iM_takeLeast C cfFU) o0 r h hP hD hS hl
def IhM_old (p : Program) (l : Launch) (e : Env) (s : State) (m : MethodId) (below : List Frame) (meth : Method) (c : Code) (A : Nat → Prop) (D : va_G) (K : Nat → ClassId) (h0 : Nat) (a0 : Nat → Nat) (AR : Array Value) (n : Nat) : Prop := (∀ (v1 : Int32) (o0 : cf_O) (r : cf_O), gM_old n 0 v1 o0 = some r → ∀ {H : Heap} {locs : List Loc} {ls : Array Slot}, (va_P D vwCl (wM K h0 a0 o0) H) → (va_D A (wM K h0 a0 o0)) → va_S A s.heap H locs → lv_has ls 2 [(0, .ref h0), (1, .int v1)] → W p l e ({ frames := 1, cells := 0, slots := 0, locals := 20 }) s m AR below meth c H locs 0 0 (MQ below (va_Qv (fun (_ : Unit) => True) (fun (_ : Unit) t => cf_At D A (wM K h0 a0 r) t) A) AR s 0 0 A) (F0 m 2 ls []))
set_option maxHeartbeats 4000000 in
set_option maxRecDepth 100000 in
theorem bM_old_2 {p : Program} {l : Launch} {e : Env} {s : State} {m : MethodId} {below : List Frame} {meth : Method} {c : Code} {A : Nat → Prop} {D : va_G} {K : Nat → ClassId} {h0 : Nat} {a0 : Nat → Nat} {AR : Array Value} (C : (dc_C p s m AR meth c cM_old 2 (Option.none : Option Jvm.ClassFile.FieldType) yM_old ∧ cf_E D K A s s.heap ∧ ∀ q, s.heap.size ≤ q → A q)) {n : Nat} (ih : IhM_old p l e s m below meth c A D K h0 a0 AR n) (v1 : Int32) (o0 : cf_O) (r : cf_O) (h : fM_old_2 (gM_old n) v1 o0 = some r) {H : Heap} {locs : List Loc} {ls : Array Slot} (hP : va_P D vwCl (wM K h0 a0 o0) H) (hD : va_D A (wM K h0 a0 o0)) (hS : va_S A s.heap H locs) (hl : lv_has ls 2 [(0, .ref h0), (1, .int v1)]) : W p l e ({ frames := 1, cells := 0, slots := 0, locals := 20 }) s m AR below meth c H locs 0 0 (MQ below (va_Qv (fun (_ : Unit) => True) (fun (_ : Unit) t => cf_At D A (wM K h0 a0 r) t) A) AR s 0 0 A) (F0 m 2 ls []) := by
  obtain ⟨⟨hx, hb, hr, hts, hown, hlocks, hin, hml⟩, hE, hA⟩ := id C
  have hK := hE.k
  refine lv_iload_n hx hb dM_old_2 rfl (lv_at hl 1 rfl) ?_
  refine lv_aload_n hx hb dM_old_3 rfl (lv_at hl 0 rfl) ?_
  obtain ⟨q_1, hq_1, h⟩ := op_b h
  refine dc_calli (va_runV (As := []) (rest := [.int v1]) ⟨hx, hb, hml, hown, hts⟩ (mM_base l D K _ h0 a0 o0 _ hq_1) (cwV 0 hts (cf_GV wv_2412 wv_2414 wv_88 wv_173 wv_2415) rfl rfl rfl (by decide +kernel) ⟨Nat.le_of_ble_eq_true rfl, Nat.le_of_ble_eq_true rfl⟩) (dc_preV hE hP hD hS hA rfl 0 rfl) rfl rfl hl.1 rfl (lv_room (Nat.le_of_ble_eq_true rfl)) dM_old_4 ⟨Nat.le_of_ble_eq_true rfl, Nat.le_of_ble_eq_true rfl⟩) hP hD hS hA (fun r_2 H locs hw_3 hP hD hS => ?_)
  subst r_2
  refine lv_icmp_ge (tgt := 25) hx hb dM_old_7 (by decide) (fun c_4 => ?_) (fun c_4 => ?_)
  · have h := op_t c_4 h
    obtain rfl := Option.some.inj h
    exact dc_vret hx hb hr hlocks rfl hP hD hS dM_old_25
  · have h := op_f c_4 h
    refine lv_aload_n hx hb dM_old_10 rfl (lv_at hl 0 rfl) ?_
    refine va_get (D := D) (ci := 12) (v := .ref (a0 51)) (C := RM) (T := TM) (N := 99) hx hb hts inM hown hK hP 0 rfl rfl 51 (by decide) (hts _ wv_2033) (fun _ h9 => h9) rfl dM_old_11 ?_
    refine lv_iload_n hx hb dM_old_14 rfl (lv_at hl 1 rfl) ?_
    refine lv_iconst (v := 2) hx hb dM_old_15 (by decide) ?_
    refine lv_iload_n hx hb dM_old_16 rfl (lv_at hl 1 rfl) ?_
    refine lv_imul hx hb dM_old_17 ?_
    refine lv_topi (fun x_5 ex_5 => ?_)
    have h := op_ks ex_5 h
    obtain ⟨hi_6, h⟩ := op_n h
    refine va_iast (D := D) hx hb hK hP hD hS 34 0 rfl rfl hi_6 dM_old_18 (fun H locs hP hD hS => ?_)
    have hP : va_P D vwCl (wM K h0 a0 (xp o0 51 v1.toNatClampNeg x_5)) H := hP
    have hD : va_D A (wM K h0 a0 (xp o0 51 v1.toNatClampNeg x_5)) := hD
    obtain ⟨o_7, eo_7, h⟩ := op_kx h
    rw [← eo_7] at hP hD
    obtain ⟨x_8, ex_8⟩ : ∃ y : Int32, y = v1 + 1 := ⟨_, rfl⟩
    refine lv_iinc (v := x_8) (lv' := [(1, .int x_8), (0, .ref h0)]) hx hb dM_old_19 hl (k := 1) rfl (by rw [ex_8]; rfl) (by decide) rfl (fun ls hl => ?_)
    have h := op_ks ex_8 h
    refine lv_goto (tgt := 2) hx hb dM_old_22 (by decide) ?_
    exact (ih) _ _ _ h hP hD hS (lv_sub hl [1, 0] rfl)
set_option maxHeartbeats 4000000 in
set_option maxRecDepth 100000 in
theorem bM_old_0 {p : Program} {l : Launch} {e : Env} {s : State} {m : MethodId} {below : List Frame} {meth : Method} {c : Code} {A : Nat → Prop} {D : va_G} {K : Nat → ClassId} {h0 : Nat} {a0 : Nat → Nat} {AR : Array Value} (C : (dc_C p s m AR meth c cM_old 2 (Option.none : Option Jvm.ClassFile.FieldType) yM_old ∧ cf_E D K A s s.heap ∧ ∀ q, s.heap.size ≤ q → A q)) {n : Nat} (ih : IhM_old p l e s m below meth c A D K h0 a0 AR n) (o0 : cf_O) (r : cf_O) (h : fM_old_0 (gM_old n) o0 = some r) {H : Heap} {locs : List Loc} {ls : Array Slot} (hP : va_P D vwCl (wM K h0 a0 o0) H) (hD : va_D A (wM K h0 a0 o0)) (hS : va_S A s.heap H locs) (hl : lv_has ls 2 [(0, .ref h0)]) : W p l e ({ frames := 1, cells := 0, slots := 0, locals := 20 }) s m AR below meth c H locs 0 0 (MQ below (va_Qv (fun (_ : Unit) => True) (fun (_ : Unit) t => cf_At D A (wM K h0 a0 r) t) A) AR s 0 0 A) (F0 m 0 ls []) := by
  obtain ⟨⟨hx, hb, hr, hts, hown, hlocks, hin, hml⟩, hE, hA⟩ := id C
  have hK := hE.k
  refine lv_iconst (v := 0) hx hb dM_old_0 (by decide) ?_
  refine lv_istore_n (lv' := [(1, .int 0), (0, .ref h0)]) hx hb dM_old_1 rfl hl (by decide) rfl (fun ls hl => ?_)
  exact (ih) _ _ _ h hP hD hS (lv_sub hl [1, 0] rfl)
theorem iM_old {p : Program} {l : Launch} {e : Env} {s : State} {m : MethodId} {below : List Frame} {meth : Method} {c : Code} {A : Nat → Prop} {D : va_G} {K : Nat → ClassId} {h0 : Nat} {a0 : Nat → Nat} {AR : Array Value} (C : (dc_C p s m AR meth c cM_old 2 (Option.none : Option Jvm.ClassFile.FieldType) yM_old ∧ cf_E D K A s s.heap ∧ ∀ q, s.heap.size ≤ q → A q)) : ∀ n, IhM_old p l e s m below meth c A D K h0 a0 AR n := by
  intro n
  induction n with
  | zero => exact (fun _ _ r h => by cases (show none = some r from h))
  | succ n ih => exact fun x0 x1 r h _ _ _ hP hD hS hl => bM_old_2 C ih x0 x1 r h hP hD hS hl
set_option maxRecDepth 100000 in
theorem mM_old (l : Launch) (D : va_G) (K : Nat → ClassId) (sz : Nat) (h0 : Nat) (a0 : Nat → Nat) (o0 : cf_O) (r : cf_O) (h : fM_old o0 = some r) : Met l yM_old (Cond.code yM_old cM_old 2 (Option.none : Option Jvm.ClassFile.FieldType) :: cfB) ({ frames := 1, cells := 0, slots := 0, locals := 20 }) (va_Pc [.ref h0] (cf_Pre D K sz (wM K h0 a0 o0))) (va_Qv (fun (_ : Unit) => True) (fun (_ : Unit) t => cf_At D (va_A (wM K h0 a0 o0) sz) (wM K h0 a0 r) t) (va_A (wM K h0 a0 o0) sz)) 0 0 (va_A (wM K h0 a0 o0) sz) := by
  refine cf_ofW (y := yM_old) (As := [.ref h0]) (WS := wM K h0 a0 o0) (maxL := 2) (fun A => (va_Qv (fun (_ : Unit) => True) (fun (_ : Unit) t => cf_At D A (wM K h0 a0 r) t) A)) (by decide) (Nat.le_of_ble_eq_true rfl) ?_
  intro p e s m below meth c A ls En hsz hA hP hD hE hS hl
  have C : (dc_C p s m (([.ref h0] : List Value).toArray) meth c cM_old 2 (Option.none : Option Jvm.ClassFile.FieldType) yM_old ∧ cf_E D K A s s.heap ∧ ∀ q, s.heap.size ≤ q → A q) := ⟨En, hE, hA⟩
  exact bM_old_0 C (iM_old C cfFU) o0 r h hP hD hS hl
def IhM_finish (p : Program) (l : Launch) (e : Env) (s : State) (m : MethodId) (below : List Frame) (meth : Method) (c : Code) (A : Nat → Prop) (D : va_G) (K : Nat → ClassId) (h0 : Nat) (a0 : Nat → Nat) (AR : Array Value) (n : Nat) : Prop := (∀ (v1 : Int32) (o0 : cf_O) (r : Int32 × cf_O), gM_finish n 0 v1 o0 = some r → ∀ {H : Heap} {locs : List Loc} {ls : Array Slot}, (va_P D vwCl (wM K h0 a0 o0) H) → (va_D A (wM K h0 a0 o0)) → va_S A s.heap H locs → lv_has ls 2 [(0, .ref h0), (1, .int v1)] → W p l e ({ frames := 1, cells := 0, slots := 0, locals := 23 }) s m AR below meth c H locs 0 0 (MQ below (va_Qi (fun (x : Int32) (_ : Unit) => x = r.1) (fun (_ : Unit) t => cf_At D A (wM K h0 a0 r.2) t) A) AR s 0 0 A) (F0 m 2 ls []))
set_option maxHeartbeats 4000000 in
set_option maxRecDepth 100000 in
theorem bM_finish_57 {p : Program} {l : Launch} {e : Env} {s : State} {m : MethodId} {below : List Frame} {meth : Method} {c : Code} {A : Nat → Prop} {D : va_G} {K : Nat → ClassId} {h0 : Nat} {a0 : Nat → Nat} {AR : Array Value} (C : (dc_C p s m AR meth c cM_finish 2 (Option.some Jvm.ClassFile.FieldType.int) yM_finish ∧ cf_E D K A s s.heap ∧ ∀ q, s.heap.size ≤ q → A q)) {n : Nat} (ih : IhM_finish p l e s m below meth c A D K h0 a0 AR n) (s1 : Int32) (o0 : cf_O) (r : Int32 × cf_O) (h : fM_finish_57 (gM_finish n) s1 o0 = some r) {H : Heap} {locs : List Loc} {ls : Array Slot} (hP : va_P D vwCl (wM K h0 a0 o0) H) (hD : va_D A (wM K h0 a0 o0)) (hS : va_S A s.heap H locs) (hl : lv_has ls 2 [(0, .ref h0)]) : W p l e ({ frames := 1, cells := 0, slots := 0, locals := 23 }) s m AR below meth c H locs 0 0 (MQ below (va_Qi (fun (x : Int32) (_ : Unit) => x = r.1) (fun (_ : Unit) t => cf_At D A (wM K h0 a0 r.2) t) A) AR s 0 0 A) (F0 m 57 ls [.int s1, .ref h0]) := by
  obtain ⟨⟨hx, hb, hr, hts, hown, hlocks, hin, hml⟩, hE, hA⟩ := id C
  have hK := hE.k
  refine lv_aload_n hx hb dM_finish_57 rfl (lv_at hl 0 rfl) ?_
  refine va_get (D := D) (ci := 12) (v := .int (o0.1 36)) (C := RM) (T := TM) (N := 99) hx hb hts inM hown hK hP 0 rfl rfl 36 (by decide) (hts _ wv_2018) (fun _ h9 => h9) rfl dM_finish_58 ?_
  refine lv_iconst (v := 0) hx hb dM_finish_61 (by decide) ?_
  obtain ⟨q_1, hq_1, h⟩ := op_b h
  refine dc_calli (va_runV (As := [.int s1, .int (o0.1 36), .int 0]) (rest := []) ⟨hx, hb, hml, hown, hts⟩ (mM_refuse l D K _ s1 (o0.1 36) 0 h0 a0 o0 _ hq_1) (cwV 3 hts (cf_GV wv_2291 wv_2293 wv_63 wv_173 wv_2294) rfl rfl rfl (by decide +kernel) ⟨Nat.le_of_ble_eq_true rfl, Nat.le_of_ble_eq_true rfl⟩) (dc_preV hE hP hD hS hA rfl 0 rfl) rfl rfl hl.1 rfl (lv_room (Nat.le_of_ble_eq_true rfl)) dM_finish_62 ⟨Nat.le_of_ble_eq_true rfl, Nat.le_of_ble_eq_true rfl⟩) hP hD hS hA (fun r_2 H locs hw_3 hP hD hS => ?_)
  subst r_2
  refine lv_if_eq (tgt := 70) hx hb dM_finish_65 (by decide) (fun c_4 => ?_) (fun c_4 => ?_)
  · have h := op_t c_4 h
    refine lv_aload_n hx hb dM_finish_70 rfl (lv_at hl 0 rfl) ?_
    obtain ⟨q_5, hq_5, h⟩ := op_b h
    refine dc_callv (va_runV (As := []) (rest := []) ⟨hx, hb, hml, hown, hts⟩ (mM_take l D K _ h0 a0 q_1.2 _ hq_5) (cwV 0 hts (cf_GV wv_2392 wv_2394 wv_86 wv_173 wv_2395) rfl rfl rfl (by decide +kernel) ⟨Nat.le_of_ble_eq_true rfl, Nat.le_of_ble_eq_true rfl⟩) (dc_preV hE hP hD hS hA rfl 0 rfl) rfl rfl hl.1 rfl (lv_room (Nat.le_of_ble_eq_true rfl)) dM_finish_71 ⟨Nat.le_of_ble_eq_true rfl, Nat.le_of_ble_eq_true rfl⟩) hP hD hS hA (fun H locs hP hD hS => ?_)
    refine lv_aload_n hx hb dM_finish_74 rfl (lv_at hl 0 rfl) ?_
    refine va_get (D := D) (ci := 12) (v := .int (q_5.1 43)) (C := RM) (T := TM) (N := 99) hx hb hts inM hown hK hP 0 rfl rfl 43 (by decide) (hts _ wv_2025) (fun _ h9 => h9) rfl dM_finish_75 ?_
    obtain rfl := Option.some.inj h
    exact dc_iret hx hb hr hlocks rfl hP hD hS dM_finish_78
  · have h := op_f c_4 h
    refine lv_iconst (v := 0) hx hb dM_finish_68 (by decide) ?_
    obtain rfl := Option.some.inj h
    exact dc_iret hx hb hr hlocks rfl hP hD hS dM_finish_69
set_option maxHeartbeats 4000000 in
set_option maxRecDepth 100000 in
theorem bM_finish_2 {p : Program} {l : Launch} {e : Env} {s : State} {m : MethodId} {below : List Frame} {meth : Method} {c : Code} {A : Nat → Prop} {D : va_G} {K : Nat → ClassId} {h0 : Nat} {a0 : Nat → Nat} {AR : Array Value} (C : (dc_C p s m AR meth c cM_finish 2 (Option.some Jvm.ClassFile.FieldType.int) yM_finish ∧ cf_E D K A s s.heap ∧ ∀ q, s.heap.size ≤ q → A q)) {n : Nat} (ih : IhM_finish p l e s m below meth c A D K h0 a0 AR n) (v1 : Int32) (o0 : cf_O) (r : Int32 × cf_O) (h : fM_finish_2 (gM_finish n) v1 o0 = some r) {H : Heap} {locs : List Loc} {ls : Array Slot} (hP : va_P D vwCl (wM K h0 a0 o0) H) (hD : va_D A (wM K h0 a0 o0)) (hS : va_S A s.heap H locs) (hl : lv_has ls 2 [(0, .ref h0), (1, .int v1)]) : W p l e ({ frames := 1, cells := 0, slots := 0, locals := 23 }) s m AR below meth c H locs 0 0 (MQ below (va_Qi (fun (x : Int32) (_ : Unit) => x = r.1) (fun (_ : Unit) t => cf_At D A (wM K h0 a0 r.2) t) A) AR s 0 0 A) (F0 m 2 ls []) := by
  obtain ⟨⟨hx, hb, hr, hts, hown, hlocks, hin, hml⟩, hE, hA⟩ := id C
  have hK := hE.k
  refine lv_iload_n hx hb dM_finish_2 rfl (lv_at hl 1 rfl) ?_
  refine lv_aload_n hx hb dM_finish_3 rfl (lv_at hl 0 rfl) ?_
  refine va_get (D := D) (ci := 12) (v := .int (o0.1 40)) (C := RM) (T := TM) (N := 99) hx hb hts inM hown hK hP 0 rfl rfl 40 (by decide) (hts _ wv_2022) (fun _ h9 => h9) rfl dM_finish_4 ?_
  refine lv_icmp_ge (tgt := 44) hx hb dM_finish_7 (by decide) (fun c_1 => ?_) (fun c_1 => ?_)
  · have h := op_t c_1 h
    refine lv_aload_n hx hb dM_finish_44 rfl (lv_at hl 0 rfl) ?_
    refine lv_aload_n hx hb dM_finish_45 rfl (lv_at hl 0 rfl) ?_
    refine va_get (D := D) (ci := 12) (v := .int (o0.1 38)) (C := RM) (T := TM) (N := 99) hx hb hts inM hown hK hP 0 rfl rfl 38 (by decide) (hts _ wv_2020) (fun _ h9 => h9) rfl dM_finish_46 ?_
    refine lv_if_ne (tgt := 56) hx hb dM_finish_49 (by decide) (fun c_2 => ?_) (fun c_2 => ?_)
    · have h := op_f c_2 h
      refine lv_iconst (v := 0) hx hb dM_finish_56 (by decide) ?_
      exact bM_finish_57 C ih _ _ _ h hP hD hS (lv_sub hl [0] rfl)
    · have h := op_t c_2 h
      refine lv_iconst (v := 1) hx hb dM_finish_52 (by decide) ?_
      refine lv_goto (tgt := 57) hx hb dM_finish_53 (by decide) ?_
      exact bM_finish_57 C ih _ _ _ h hP hD hS (lv_sub hl [0] rfl)
  · have h := op_f c_1 h
    refine lv_aload_n hx hb dM_finish_10 rfl (lv_at hl 0 rfl) ?_
    refine va_get (D := D) (ci := 12) (v := .ref (a0 35)) (C := RM) (T := TM) (N := 99) hx hb hts inM hown hK hP 0 rfl rfl 35 (by decide) (hts _ wv_2017) (fun _ h9 => h9) rfl dM_finish_11 ?_
    refine lv_iload_n hx hb dM_finish_14 rfl (lv_at hl 1 rfl) ?_
    refine lv_aload_n hx hb dM_finish_15 rfl (lv_at hl 0 rfl) ?_
    refine va_get (D := D) (ci := 12) (v := .ref (a0 51)) (C := RM) (T := TM) (N := 99) hx hb hts inM hown hK hP 0 rfl rfl 51 (by decide) (hts _ wv_2033) (fun _ h9 => h9) rfl dM_finish_16 ?_
    refine lv_aload_n hx hb dM_finish_19 rfl (lv_at hl 0 rfl) ?_
    refine va_get (D := D) (ci := 12) (v := .ref (a0 47)) (C := RM) (T := TM) (N := 99) hx hb hts inM hown hK hP 0 rfl rfl 47 (by decide) (hts _ wv_2029) (fun _ h9 => h9) rfl dM_finish_20 ?_
    refine lv_iload_n hx hb dM_finish_23 rfl (lv_at hl 1 rfl) ?_
    obtain ⟨hi_3, h⟩ := op_n h
    refine va_iald (D := D) hx hb hK hP 30 0 rfl rfl hi_3 dM_finish_24 ?_
    refine lv_topi (fun x_4 ex_4 => ?_)
    have h := op_ks ex_4 h
    refine lv_iconst (v := 2) hx hb dM_finish_25 (by decide) ?_
    refine lv_idiv hx hb dM_finish_26 (by decide) ?_
    refine lv_topi (fun x_5 ex_5 => ?_)
    have h := op_ks ex_5 h
    obtain ⟨hi_6, h⟩ := op_n h
    refine va_iald (D := D) hx hb hK hP 34 0 rfl rfl hi_6 dM_finish_27 ?_
    refine lv_topi (fun x_7 ex_7 => ?_)
    have h := op_ks ex_7 h
    refine lv_aload_n hx hb dM_finish_28 rfl (lv_at hl 0 rfl) ?_
    refine va_get (D := D) (ci := 12) (v := .ref (a0 47)) (C := RM) (T := TM) (N := 99) hx hb hts inM hown hK hP 0 rfl rfl 47 (by decide) (hts _ wv_2029) (fun _ h9 => h9) rfl dM_finish_29 ?_
    refine lv_iload_n hx hb dM_finish_32 rfl (lv_at hl 1 rfl) ?_
    obtain ⟨hi_8, h⟩ := op_n h
    refine va_iald (D := D) hx hb hK hP 30 0 rfl rfl hi_8 dM_finish_33 ?_
    refine lv_topi (fun x_9 ex_9 => ?_)
    have h := op_ks ex_9 h
    refine lv_iconst (v := 1) hx hb dM_finish_34 (by decide) ?_
    refine lv_iand hx hb dM_finish_35 ?_
    refine lv_topi (fun x_10 ex_10 => ?_)
    have h := op_ks ex_10 h
    refine lv_ixor hx hb dM_finish_36 ?_
    refine lv_topi (fun x_11 ex_11 => ?_)
    have h := op_ks ex_11 h
    obtain ⟨hi_12, h⟩ := op_n h
    refine va_iast (D := D) hx hb hK hP hD hS 24 0 rfl rfl hi_12 dM_finish_37 (fun H locs hP hD hS => ?_)
    have hP : va_P D vwCl (wM K h0 a0 (xp o0 35 v1.toNatClampNeg x_11)) H := hP
    have hD : va_D A (wM K h0 a0 (xp o0 35 v1.toNatClampNeg x_11)) := hD
    obtain ⟨o_13, eo_13, h⟩ := op_kx h
    rw [← eo_13] at hP hD
    obtain ⟨x_14, ex_14⟩ : ∃ y : Int32, y = v1 + 1 := ⟨_, rfl⟩
    refine lv_iinc (v := x_14) (lv' := [(1, .int x_14), (0, .ref h0)]) hx hb dM_finish_38 hl (k := 1) rfl (by rw [ex_14]; rfl) (by decide) rfl (fun ls hl => ?_)
    have h := op_ks ex_14 h
    refine lv_goto (tgt := 2) hx hb dM_finish_41 (by decide) ?_
    exact (ih) _ _ _ h hP hD hS (lv_sub hl [1, 0] rfl)
set_option maxHeartbeats 4000000 in
set_option maxRecDepth 100000 in
theorem bM_finish_0 {p : Program} {l : Launch} {e : Env} {s : State} {m : MethodId} {below : List Frame} {meth : Method} {c : Code} {A : Nat → Prop} {D : va_G} {K : Nat → ClassId} {h0 : Nat} {a0 : Nat → Nat} {AR : Array Value} (C : (dc_C p s m AR meth c cM_finish 2 (Option.some Jvm.ClassFile.FieldType.int) yM_finish ∧ cf_E D K A s s.heap ∧ ∀ q, s.heap.size ≤ q → A q)) {n : Nat} (ih : IhM_finish p l e s m below meth c A D K h0 a0 AR n) (o0 : cf_O) (r : Int32 × cf_O) (h : fM_finish_0 (gM_finish n) o0 = some r) {H : Heap} {locs : List Loc} {ls : Array Slot} (hP : va_P D vwCl (wM K h0 a0 o0) H) (hD : va_D A (wM K h0 a0 o0)) (hS : va_S A s.heap H locs) (hl : lv_has ls 2 [(0, .ref h0)]) : W p l e ({ frames := 1, cells := 0, slots := 0, locals := 23 }) s m AR below meth c H locs 0 0 (MQ below (va_Qi (fun (x : Int32) (_ : Unit) => x = r.1) (fun (_ : Unit) t => cf_At D A (wM K h0 a0 r.2) t) A) AR s 0 0 A) (F0 m 0 ls []) := by
  obtain ⟨⟨hx, hb, hr, hts, hown, hlocks, hin, hml⟩, hE, hA⟩ := id C
  have hK := hE.k
  refine lv_iconst (v := 0) hx hb dM_finish_0 (by decide) ?_
  refine lv_istore_n (lv' := [(1, .int 0), (0, .ref h0)]) hx hb dM_finish_1 rfl hl (by decide) rfl (fun ls hl => ?_)
  exact (ih) _ _ _ h hP hD hS (lv_sub hl [1, 0] rfl)
theorem iM_finish {p : Program} {l : Launch} {e : Env} {s : State} {m : MethodId} {below : List Frame} {meth : Method} {c : Code} {A : Nat → Prop} {D : va_G} {K : Nat → ClassId} {h0 : Nat} {a0 : Nat → Nat} {AR : Array Value} (C : (dc_C p s m AR meth c cM_finish 2 (Option.some Jvm.ClassFile.FieldType.int) yM_finish ∧ cf_E D K A s s.heap ∧ ∀ q, s.heap.size ≤ q → A q)) : ∀ n, IhM_finish p l e s m below meth c A D K h0 a0 AR n := by
  intro n
  induction n with
  | zero => exact (fun _ _ r h => by cases (show none = some r from h))
  | succ n ih => exact fun x0 x1 r h _ _ _ hP hD hS hl => bM_finish_2 C ih x0 x1 r h hP hD hS hl
set_option maxRecDepth 100000 in
theorem mM_finish (l : Launch) (D : va_G) (K : Nat → ClassId) (sz : Nat) (h0 : Nat) (a0 : Nat → Nat) (o0 : cf_O) (r : Int32 × cf_O) (h : fM_finish o0 = some r) : Met l yM_finish (Cond.code yM_finish cM_finish 2 (Option.some Jvm.ClassFile.FieldType.int) :: cfB) ({ frames := 1, cells := 0, slots := 0, locals := 23 }) (va_Pc [.ref h0] (cf_Pre D K sz (wM K h0 a0 o0))) (va_Qi (fun (x : Int32) (_ : Unit) => x = r.1) (fun (_ : Unit) t => cf_At D (va_A (wM K h0 a0 o0) sz) (wM K h0 a0 r.2) t) (va_A (wM K h0 a0 o0) sz)) 0 0 (va_A (wM K h0 a0 o0) sz) := by
  refine cf_ofW (y := yM_finish) (As := [.ref h0]) (WS := wM K h0 a0 o0) (maxL := 2) (fun A => (va_Qi (fun (x : Int32) (_ : Unit) => x = r.1) (fun (_ : Unit) t => cf_At D A (wM K h0 a0 r.2) t) A)) (by decide) (Nat.le_of_ble_eq_true rfl) ?_
  intro p e s m below meth c A ls En hsz hA hP hD hE hS hl
  have C : (dc_C p s m (([.ref h0] : List Value).toArray) meth c cM_finish 2 (Option.some Jvm.ClassFile.FieldType.int) yM_finish ∧ cf_E D K A s s.heap ∧ ∀ q, s.heap.size ≤ q → A q) := ⟨En, hE, hA⟩
  exact bM_finish_0 C (iM_finish C cfFU) o0 r h hP hD hS hl
def IhM_balance (p : Program) (l : Launch) (e : Env) (s : State) (m : MethodId) (below : List Frame) (meth : Method) (c : Code) (A : Nat → Prop) (D : va_G) (K : Nat → ClassId) (h0 : Nat) (a0 : Nat → Nat) (AR : Array Value) (n : Nat) : Prop := (∀ (v1 : Int32) (o0 : cf_O) (r : Int32 × cf_O), gM_balance n 0 v1 o0 = some r → ∀ {H : Heap} {locs : List Loc} {ls : Array Slot}, (va_P D vwCl (wM K h0 a0 o0) H) → (va_D A (wM K h0 a0 o0)) → va_S A s.heap H locs → lv_has ls 4 [(0, .ref h0), (1, .int v1)] → W p l e ({ frames := 3, cells := 0, slots := 0, locals := 64 }) s m AR below meth c H locs 0 0 (MQ below (va_Qi (fun (x : Int32) (_ : Unit) => x = r.1) (fun (_ : Unit) t => cf_At D A (wM K h0 a0 r.2) t) A) AR s 0 0 A) (F0 m 41 ls [])) ∧ (∀ (v1 : Int32) (o0 : cf_O) (r : Int32 × cf_O), gM_balance n 1 v1 o0 = some r → ∀ {H : Heap} {locs : List Loc} {ls : Array Slot}, (va_P D vwCl (wM K h0 a0 o0) H) → (va_D A (wM K h0 a0 o0)) → va_S A s.heap H locs → lv_has ls 4 [(0, .ref h0), (1, .int v1)] → W p l e ({ frames := 3, cells := 0, slots := 0, locals := 64 }) s m AR below meth c H locs 0 0 (MQ below (va_Qi (fun (x : Int32) (_ : Unit) => x = r.1) (fun (_ : Unit) t => cf_At D A (wM K h0 a0 r.2) t) A) AR s 0 0 A) (F0 m 85 ls []))
set_option maxHeartbeats 4000000 in
set_option maxRecDepth 100000 in
theorem bM_balance_148 {p : Program} {l : Launch} {e : Env} {s : State} {m : MethodId} {below : List Frame} {meth : Method} {c : Code} {A : Nat → Prop} {D : va_G} {K : Nat → ClassId} {h0 : Nat} {a0 : Nat → Nat} {AR : Array Value} (C : (dc_C p s m AR meth c cM_balance 4 (Option.some Jvm.ClassFile.FieldType.int) yM_balance ∧ cf_E D K A s s.heap ∧ ∀ q, s.heap.size ≤ q → A q)) {n : Nat} (ih : IhM_balance p l e s m below meth c A D K h0 a0 AR n) (v1 : Int32) (o0 : cf_O) (r : Int32 × cf_O) (h : fM_balance_148 (gM_balance n) v1 o0 = some r) {H : Heap} {locs : List Loc} {ls : Array Slot} (hP : va_P D vwCl (wM K h0 a0 o0) H) (hD : va_D A (wM K h0 a0 o0)) (hS : va_S A s.heap H locs) (hl : lv_has ls 4 [(0, .ref h0), (1, .int v1)]) : W p l e ({ frames := 3, cells := 0, slots := 0, locals := 64 }) s m AR below meth c H locs 0 0 (MQ below (va_Qi (fun (x : Int32) (_ : Unit) => x = r.1) (fun (_ : Unit) t => cf_At D A (wM K h0 a0 r.2) t) A) AR s 0 0 A) (F0 m 148 ls []) := by
  obtain ⟨⟨hx, hb, hr, hts, hown, hlocks, hin, hml⟩, hE, hA⟩ := id C
  have hK := hE.k
  obtain ⟨x_1, ex_1⟩ : ∃ y : Int32, y = v1 + 1 := ⟨_, rfl⟩
  refine lv_iinc (v := x_1) (lv' := [(1, .int x_1), (0, .ref h0)]) hx hb dM_balance_148 hl (k := 1) rfl (by rw [ex_1]; rfl) (by decide) rfl (fun ls hl => ?_)
  have h := op_ks ex_1 h
  refine lv_goto (tgt := 41) hx hb dM_balance_151 (by decide) ?_
  exact (ih.1) _ _ _ h hP hD hS (lv_sub hl [1, 0] rfl)
set_option maxHeartbeats 4000000 in
set_option maxRecDepth 100000 in
theorem bM_balance_85 {p : Program} {l : Launch} {e : Env} {s : State} {m : MethodId} {below : List Frame} {meth : Method} {c : Code} {A : Nat → Prop} {D : va_G} {K : Nat → ClassId} {h0 : Nat} {a0 : Nat → Nat} {AR : Array Value} (C : (dc_C p s m AR meth c cM_balance 4 (Option.some Jvm.ClassFile.FieldType.int) yM_balance ∧ cf_E D K A s s.heap ∧ ∀ q, s.heap.size ≤ q → A q)) {n : Nat} (ih : IhM_balance p l e s m below meth c A D K h0 a0 AR n) (v1 : Int32) (o0 : cf_O) (r : Int32 × cf_O) (h : fM_balance_85 (gM_balance n) v1 o0 = some r) {H : Heap} {locs : List Loc} {ls : Array Slot} (hP : va_P D vwCl (wM K h0 a0 o0) H) (hD : va_D A (wM K h0 a0 o0)) (hS : va_S A s.heap H locs) (hl : lv_has ls 4 [(0, .ref h0), (1, .int v1)]) : W p l e ({ frames := 3, cells := 0, slots := 0, locals := 64 }) s m AR below meth c H locs 0 0 (MQ below (va_Qi (fun (x : Int32) (_ : Unit) => x = r.1) (fun (_ : Unit) t => cf_At D A (wM K h0 a0 r.2) t) A) AR s 0 0 A) (F0 m 85 ls []) := by
  obtain ⟨⟨hx, hb, hr, hts, hown, hlocks, hin, hml⟩, hE, hA⟩ := id C
  have hK := hE.k
  refine lv_aload_n hx hb dM_balance_85 rfl (lv_at hl 0 rfl) ?_
  refine va_get (D := D) (ci := 12) (v := .int (o0.1 52)) (C := RM) (T := TM) (N := 99) hx hb hts inM hown hK hP 0 rfl rfl 52 (by decide) (hts _ wv_2034) (fun _ h9 => h9) rfl dM_balance_86 ?_
  refine lv_iconst (v := 1) hx hb dM_balance_89 (by decide) ?_
  refine lv_icmp_le (tgt := 131) hx hb dM_balance_90 (by decide) (fun c_1 => ?_) (fun c_1 => ?_)
  · have h := op_t c_1 h
    refine lv_aload_n hx hb dM_balance_131 rfl (lv_at hl 0 rfl) ?_
    refine va_get (D := D) (ci := 12) (v := .ref (a0 51)) (C := RM) (T := TM) (N := 99) hx hb hts inM hown hK hP 0 rfl rfl 51 (by decide) (hts _ wv_2033) (fun _ h9 => h9) rfl dM_balance_132 ?_
    refine lv_aload_n hx hb dM_balance_135 rfl (lv_at hl 0 rfl) ?_
    obtain ⟨q_2, hq_2, h⟩ := op_b h
    refine dc_calli (va_runV (As := []) (rest := [.ref (a0 51)]) ⟨hx, hb, hml, hown, hts⟩ (mM_base l D K _ h0 a0 o0 _ hq_2) (cwV 0 hts (cf_GV wv_2412 wv_2414 wv_88 wv_173 wv_2415) rfl rfl rfl (by decide +kernel) ⟨Nat.le_of_ble_eq_true rfl, Nat.le_of_ble_eq_true rfl⟩) (dc_preV hE hP hD hS hA rfl 0 rfl) rfl rfl hl.1 rfl (lv_room (Nat.le_of_ble_eq_true rfl)) dM_balance_136 ⟨Nat.le_of_ble_eq_true rfl, Nat.le_of_ble_eq_true rfl⟩) hP hD hS hA (fun r_3 H locs hw_4 hP hD hS => ?_)
    subst r_3
    refine lv_iload_n hx hb dM_balance_139 rfl (lv_at hl 1 rfl) ?_
    refine lv_iadd hx hb dM_balance_140 ?_
    refine lv_topi (fun x_5 ex_5 => ?_)
    have h := op_ks ex_5 h
    refine lv_aload_n hx hb dM_balance_141 rfl (lv_at hl 0 rfl) ?_
    refine va_get (D := D) (ci := 12) (v := .ref (a0 53)) (C := RM) (T := TM) (N := 99) hx hb hts inM hown hK hP 0 rfl rfl 53 (by decide) (hts _ wv_2035) (fun _ h9 => h9) rfl dM_balance_142 ?_
    refine lv_iconst (v := 0) hx hb dM_balance_145 (by decide) ?_
    obtain ⟨hi_6, h⟩ := op_n h
    refine va_iald (D := D) hx hb hK hP 35 0 rfl rfl hi_6 dM_balance_146 ?_
    refine lv_topi (fun x_7 ex_7 => ?_)
    have h := op_ks ex_7 h
    obtain ⟨hi_8, h⟩ := op_n h
    refine va_iast (D := D) hx hb hK hP hD hS 34 0 rfl rfl hi_8 dM_balance_147 (fun H locs hP hD hS => ?_)
    have hP : va_P D vwCl (wM K h0 a0 (xp o0 51 x_5.toNatClampNeg x_7)) H := hP
    have hD : va_D A (wM K h0 a0 (xp o0 51 x_5.toNatClampNeg x_7)) := hD
    obtain ⟨o_9, eo_9, h⟩ := op_kx h
    rw [← eo_9] at hP hD
    exact bM_balance_148 C ih _ _ _ h hP hD hS (lv_sub hl [0, 1] rfl)
  · have h := op_f c_1 h
    refine lv_aload_n hx hb dM_balance_93 rfl (lv_at hl 0 rfl) ?_
    obtain ⟨q_10, hq_10, h⟩ := op_b h
    refine dc_calli (va_runV (As := []) (rest := []) ⟨hx, hb, hml, hown, hts⟩ (mM_takeLeast l D K _ h0 a0 o0 _ hq_10) (cwV 0 hts (cf_GV wv_2448 wv_2450 wv_94 wv_173 wv_2451) rfl rfl rfl (by decide +kernel) ⟨Nat.le_of_ble_eq_true rfl, Nat.le_of_ble_eq_true rfl⟩) (dc_preV hE hP hD hS hA rfl 0 rfl) rfl rfl hl.1 rfl (lv_room (Nat.le_of_ble_eq_true rfl)) dM_balance_94 ⟨Nat.le_of_ble_eq_true rfl, Nat.le_of_ble_eq_true rfl⟩) hP hD hS hA (fun r_11 H locs hw_12 hP hD hS => ?_)
    subst r_11
    refine lv_istore_n (lv' := [(2, .int q_10.1), (0, .ref h0), (1, .int v1)]) hx hb dM_balance_97 rfl hl (by decide) rfl (fun ls hl => ?_)
    refine lv_aload_n hx hb dM_balance_98 rfl (lv_at hl 1 rfl) ?_
    obtain ⟨q_13, hq_13, h⟩ := op_b h
    refine dc_calli (va_runV (As := []) (rest := []) ⟨hx, hb, hml, hown, hts⟩ (mM_takeLeast l D K _ h0 a0 q_10.2 _ hq_13) (cwV 0 hts (cf_GV wv_2448 wv_2450 wv_94 wv_173 wv_2451) rfl rfl rfl (by decide +kernel) ⟨Nat.le_of_ble_eq_true rfl, Nat.le_of_ble_eq_true rfl⟩) (dc_preV hE hP hD hS hA rfl 0 rfl) rfl rfl hl.1 rfl (lv_room (Nat.le_of_ble_eq_true rfl)) dM_balance_99 ⟨Nat.le_of_ble_eq_true rfl, Nat.le_of_ble_eq_true rfl⟩) hP hD hS hA (fun r_14 H locs hw_15 hP hD hS => ?_)
    subst r_14
    refine lv_istore_n (lv' := [(3, .int q_13.1), (2, .int q_10.1), (0, .ref h0), (1, .int v1)]) hx hb dM_balance_102 rfl hl (by decide) rfl (fun ls hl => ?_)
    refine lv_aload_n hx hb dM_balance_103 rfl (lv_at hl 2 rfl) ?_
    refine va_get (D := D) (ci := 12) (v := .ref (a0 53)) (C := RM) (T := TM) (N := 99) hx hb hts inM hown hK hP 0 rfl rfl 53 (by decide) (hts _ wv_2035) (fun _ h9 => h9) rfl dM_balance_104 ?_
    refine lv_aload_n hx hb dM_balance_107 rfl (lv_at hl 2 rfl) ?_
    refine va_get (D := D) (ci := 12) (v := .int (q_13.2.1 52)) (C := RM) (T := TM) (N := 99) hx hb hts inM hown hK hP 0 rfl rfl 52 (by decide) (hts _ wv_2034) (fun _ h9 => h9) rfl dM_balance_108 ?_
    refine lv_aload_n hx hb dM_balance_111 rfl (lv_at hl 2 rfl) ?_
    refine lv_iload_n hx hb dM_balance_112 rfl (lv_at hl 1 rfl) ?_
    refine lv_iload_n hx hb dM_balance_113 rfl (lv_at hl 0 rfl) ?_
    obtain ⟨q_16, hq_16, h⟩ := op_b h
    refine dc_calli (va_runV (As := [.int q_10.1, .int q_13.1]) (rest := [.int (q_13.2.1 52), .ref (a0 53)]) ⟨hx, hb, hml, hown, hts⟩ (mM_and l D K _ q_10.1 q_13.1 h0 a0 q_13.2 _ hq_16) (cwV 2 hts (cf_GV wv_2384 wv_2386 wv_84 wv_173 wv_2387) rfl rfl rfl (by decide +kernel) ⟨Nat.le_of_ble_eq_true rfl, Nat.le_of_ble_eq_true rfl⟩) (dc_preV hE hP hD hS hA rfl 0 rfl) rfl rfl hl.1 rfl (lv_room (Nat.le_of_ble_eq_true rfl)) dM_balance_114 ⟨Nat.le_of_ble_eq_true rfl, Nat.le_of_ble_eq_true rfl⟩) hP hD hS hA (fun r_17 H locs hw_18 hP hD hS => ?_)
    subst r_17
    obtain ⟨hi_19, h⟩ := op_n h
    refine va_iast (D := D) hx hb hK hP hD hS 35 0 rfl rfl hi_19 dM_balance_117 (fun H locs hP hD hS => ?_)
    have hP : va_P D vwCl (wM K h0 a0 (xp q_16.2 53 (q_13.2.1 52).toNatClampNeg q_16.1)) H := hP
    have hD : va_D A (wM K h0 a0 (xp q_16.2 53 (q_13.2.1 52).toNatClampNeg q_16.1)) := hD
    obtain ⟨o_20, eo_20, h⟩ := op_kx h
    rw [← eo_20] at hP hD
    refine lv_aload_n hx hb dM_balance_118 rfl (lv_at hl 2 rfl) ?_
    refine lv_dup hx hb dM_balance_119 rfl ?_
    refine va_get (D := D) (ci := 12) (v := .int (o_20.1 52)) (C := RM) (T := TM) (N := 99) hx hb hts inM hown hK hP 0 rfl rfl 52 (by decide) (hts _ wv_2034) (fun _ h9 => h9) rfl dM_balance_120 ?_
    refine lv_iconst (v := 1) hx hb dM_balance_123 (by decide) ?_
    refine lv_iadd hx hb dM_balance_124 ?_
    refine lv_topi (fun x_21 ex_21 => ?_)
    have h := op_ks ex_21 h
    refine va_put (D := D) (ci := 12) (v := .int x_21) (ty := .int) (C := RM) (T := TM) (N := 99) hx hb hts inM tyM tyokM nmM hown hK hP hD hS 0 rfl rfl 52 (by decide) (hts _ wv_2034) (fun _ h9 => h9) rfl (by decide +kernel) rfl rfl (Nat.le_of_ble_eq_true rfl) dM_balance_125 (fun H locs hP hD hS => ?_)
    have hP : va_P D vwCl (wM K h0 a0 (fp o_20 52 x_21)) H := hP
    have hD : va_D A (wM K h0 a0 (fp o_20 52 x_21)) := hD
    obtain ⟨o_22, eo_22, h⟩ := op_kx h
    rw [← eo_22] at hP hD
    refine lv_goto (tgt := 85) hx hb dM_balance_128 (by decide) ?_
    exact (ih.2) _ _ _ h hP hD hS (lv_sub hl [2, 3] rfl)
set_option maxHeartbeats 4000000 in
set_option maxRecDepth 100000 in
theorem bM_balance_41 {p : Program} {l : Launch} {e : Env} {s : State} {m : MethodId} {below : List Frame} {meth : Method} {c : Code} {A : Nat → Prop} {D : va_G} {K : Nat → ClassId} {h0 : Nat} {a0 : Nat → Nat} {AR : Array Value} (C : (dc_C p s m AR meth c cM_balance 4 (Option.some Jvm.ClassFile.FieldType.int) yM_balance ∧ cf_E D K A s s.heap ∧ ∀ q, s.heap.size ≤ q → A q)) {n : Nat} (ih : IhM_balance p l e s m below meth c A D K h0 a0 AR n) (v1 : Int32) (o0 : cf_O) (r : Int32 × cf_O) (h : fM_balance_41 (gM_balance n) v1 o0 = some r) {H : Heap} {locs : List Loc} {ls : Array Slot} (hP : va_P D vwCl (wM K h0 a0 o0) H) (hD : va_D A (wM K h0 a0 o0)) (hS : va_S A s.heap H locs) (hl : lv_has ls 4 [(0, .ref h0), (1, .int v1)]) : W p l e ({ frames := 3, cells := 0, slots := 0, locals := 64 }) s m AR below meth c H locs 0 0 (MQ below (va_Qi (fun (x : Int32) (_ : Unit) => x = r.1) (fun (_ : Unit) t => cf_At D A (wM K h0 a0 r.2) t) A) AR s 0 0 A) (F0 m 41 ls []) := by
  obtain ⟨⟨hx, hb, hr, hts, hown, hlocks, hin, hml⟩, hE, hA⟩ := id C
  have hK := hE.k
  refine lv_iload_n hx hb dM_balance_41 rfl (lv_at hl 1 rfl) ?_
  refine lv_aload_n hx hb dM_balance_42 rfl (lv_at hl 0 rfl) ?_
  refine va_get (D := D) (ci := 12) (v := .int (o0.1 43)) (C := RM) (T := TM) (N := 99) hx hb hts inM hown hK hP 0 rfl rfl 43 (by decide) (hts _ wv_2025) (fun _ h9 => h9) rfl dM_balance_43 ?_
  refine lv_icmp_ge (tgt := 154) hx hb dM_balance_46 (by decide) (fun c_1 => ?_) (fun c_1 => ?_)
  · have h := op_t c_1 h
    refine lv_aload_n hx hb dM_balance_154 rfl (lv_at hl 0 rfl) ?_
    obtain ⟨q_2, hq_2, h⟩ := op_b h
    refine dc_calli (va_runV (As := []) (rest := []) ⟨hx, hb, hml, hown, hts⟩ (mM_finish l D K _ h0 a0 o0 _ hq_2) (cwV 0 hts (cf_GV wv_2452 wv_2454 wv_95 wv_173 wv_2455) rfl rfl rfl (by decide +kernel) ⟨Nat.le_of_ble_eq_true rfl, Nat.le_of_ble_eq_true rfl⟩) (dc_preV hE hP hD hS hA rfl 0 rfl) rfl rfl hl.1 rfl (lv_room (Nat.le_of_ble_eq_true rfl)) dM_balance_155 ⟨Nat.le_of_ble_eq_true rfl, Nat.le_of_ble_eq_true rfl⟩) hP hD hS hA (fun r_3 H locs hw_4 hP hD hS => ?_)
    subst r_3
    obtain rfl := Option.some.inj h
    exact dc_iret hx hb hr hlocks rfl hP hD hS dM_balance_158
  · have h := op_f c_1 h
    refine lv_aload_n hx hb dM_balance_49 rfl (lv_at hl 0 rfl) ?_
    refine va_get (D := D) (ci := 12) (v := .ref (a0 49)) (C := RM) (T := TM) (N := 99) hx hb hts inM hown hK hP 0 rfl rfl 49 (by decide) (hts _ wv_2031) (fun _ h9 => h9) rfl dM_balance_50 ?_
    refine lv_aload_n hx hb dM_balance_53 rfl (lv_at hl 0 rfl) ?_
    obtain ⟨q_5, hq_5, h⟩ := op_b h
    refine dc_calli (va_runV (As := []) (rest := [.ref (a0 49)]) ⟨hx, hb, hml, hown, hts⟩ (mM_base l D K _ h0 a0 o0 _ hq_5) (cwV 0 hts (cf_GV wv_2412 wv_2414 wv_88 wv_173 wv_2415) rfl rfl rfl (by decide +kernel) ⟨Nat.le_of_ble_eq_true rfl, Nat.le_of_ble_eq_true rfl⟩) (dc_preV hE hP hD hS hA rfl 0 rfl) rfl rfl hl.1 rfl (lv_room (Nat.le_of_ble_eq_true rfl)) dM_balance_54 ⟨Nat.le_of_ble_eq_true rfl, Nat.le_of_ble_eq_true rfl⟩) hP hD hS hA (fun r_6 H locs hw_7 hP hD hS => ?_)
    subst r_6
    refine lv_iload_n hx hb dM_balance_57 rfl (lv_at hl 1 rfl) ?_
    refine lv_iadd hx hb dM_balance_58 ?_
    refine lv_topi (fun x_8 ex_8 => ?_)
    have h := op_ks ex_8 h
    obtain ⟨hi_9, h⟩ := op_n h
    refine va_zald (D := D) hx hb hK hP 32 3 rfl rfl hi_9 dM_balance_59 ?_
    refine lv_topi (fun x_10 ex_10 => ?_)
    have h := op_ks ex_10 h
    refine lv_if_eq (tgt := 148) hx hb dM_balance_60 (by decide) (fun c_11 => ?_) (fun c_11 => ?_)
    · have h := op_t c_11 h
      exact bM_balance_148 C ih _ _ _ h hP hD hS (lv_sub hl [0, 1] rfl)
    · have h := op_f c_11 h
      refine lv_aload_n hx hb dM_balance_63 rfl (lv_at hl 0 rfl) ?_
      refine va_get (D := D) (ci := 12) (v := .ref (a0 50)) (C := RM) (T := TM) (N := 99) hx hb hts inM hown hK hP 0 rfl rfl 50 (by decide) (hts _ wv_2032) (fun _ h9 => h9) rfl dM_balance_64 ?_
      refine lv_aload_n hx hb dM_balance_67 rfl (lv_at hl 0 rfl) ?_
      obtain ⟨q_12, hq_12, h⟩ := op_b h
      refine dc_calli (va_runV (As := []) (rest := [.ref (a0 50)]) ⟨hx, hb, hml, hown, hts⟩ (mM_base l D K _ h0 a0 o0 _ hq_12) (cwV 0 hts (cf_GV wv_2412 wv_2414 wv_88 wv_173 wv_2415) rfl rfl rfl (by decide +kernel) ⟨Nat.le_of_ble_eq_true rfl, Nat.le_of_ble_eq_true rfl⟩) (dc_preV hE hP hD hS hA rfl 0 rfl) rfl rfl hl.1 rfl (lv_room (Nat.le_of_ble_eq_true rfl)) dM_balance_68 ⟨Nat.le_of_ble_eq_true rfl, Nat.le_of_ble_eq_true rfl⟩) hP hD hS hA (fun r_13 H locs hw_14 hP hD hS => ?_)
      subst r_13
      refine lv_iload_n hx hb dM_balance_71 rfl (lv_at hl 1 rfl) ?_
      refine lv_iadd hx hb dM_balance_72 ?_
      refine lv_topi (fun x_15 ex_15 => ?_)
      have h := op_ks ex_15 h
      obtain ⟨hi_16, h⟩ := op_n h
      refine va_zald (D := D) hx hb hK hP 33 3 rfl rfl hi_16 dM_balance_73 ?_
      refine lv_topi (fun x_17 ex_17 => ?_)
      have h := op_ks ex_17 h
      refine lv_if_eq (tgt := 80) hx hb dM_balance_74 (by decide) (fun c_18 => ?_) (fun c_18 => ?_)
      · have h := op_t c_18 h
        refine lv_aload_n hx hb dM_balance_80 rfl (lv_at hl 0 rfl) ?_
        refine lv_iload_n hx hb dM_balance_81 rfl (lv_at hl 1 rfl) ?_
        obtain ⟨q_19, hq_19, h⟩ := op_b h
        refine dc_callv (va_runV (As := [.int v1]) (rest := []) ⟨hx, hb, hml, hown, hts⟩ (mM_leaves l D K _ v1 h0 a0 o0 _ hq_19) (cwV 1 hts (cf_GV wv_2444 wv_2446 wv_93 wv_173 wv_2447) rfl rfl rfl (by decide +kernel) ⟨Nat.le_of_ble_eq_true rfl, Nat.le_of_ble_eq_true rfl⟩) (dc_preV hE hP hD hS hA rfl 0 rfl) rfl rfl hl.1 rfl (lv_room (Nat.le_of_ble_eq_true rfl)) dM_balance_82 ⟨Nat.le_of_ble_eq_true rfl, Nat.le_of_ble_eq_true rfl⟩) hP hD hS hA (fun H locs hP hD hS => ?_)
        exact (ih.2) _ _ _ h hP hD hS (lv_sub hl [0, 1] rfl)
      · have h := op_f c_18 h
        refine lv_goto (tgt := 148) hx hb dM_balance_77 (by decide) ?_
        exact bM_balance_148 C ih _ _ _ h hP hD hS (lv_sub hl [0, 1] rfl)
set_option maxHeartbeats 4000000 in
set_option maxRecDepth 100000 in
theorem bM_balance_13 {p : Program} {l : Launch} {e : Env} {s : State} {m : MethodId} {below : List Frame} {meth : Method} {c : Code} {A : Nat → Prop} {D : va_G} {K : Nat → ClassId} {h0 : Nat} {a0 : Nat → Nat} {AR : Array Value} (C : (dc_C p s m AR meth c cM_balance 4 (Option.some Jvm.ClassFile.FieldType.int) yM_balance ∧ cf_E D K A s s.heap ∧ ∀ q, s.heap.size ≤ q → A q)) {n : Nat} (ih : IhM_balance p l e s m below meth c A D K h0 a0 AR n) (s1 : Int32) (o0 : cf_O) (r : Int32 × cf_O) (h : fM_balance_13 (gM_balance n) s1 o0 = some r) {H : Heap} {locs : List Loc} {ls : Array Slot} (hP : va_P D vwCl (wM K h0 a0 o0) H) (hD : va_D A (wM K h0 a0 o0)) (hS : va_S A s.heap H locs) (hl : lv_has ls 4 [(0, .ref h0)]) : W p l e ({ frames := 3, cells := 0, slots := 0, locals := 64 }) s m AR below meth c H locs 0 0 (MQ below (va_Qi (fun (x : Int32) (_ : Unit) => x = r.1) (fun (_ : Unit) t => cf_At D A (wM K h0 a0 r.2) t) A) AR s 0 0 A) (F0 m 13 ls [.int s1, .ref h0]) := by
  obtain ⟨⟨hx, hb, hr, hts, hown, hlocks, hin, hml⟩, hE, hA⟩ := id C
  have hK := hE.k
  refine lv_iconst (v := 0) hx hb dM_balance_13 (by decide) ?_
  refine lv_iconst (v := 0) hx hb dM_balance_14 (by decide) ?_
  obtain ⟨q_1, hq_1, h⟩ := op_b h
  refine dc_calli (va_runV (As := [.int s1, .int 0, .int 0]) (rest := []) ⟨hx, hb, hml, hown, hts⟩ (mM_refuse l D K _ s1 0 0 h0 a0 o0 _ hq_1) (cwV 3 hts (cf_GV wv_2291 wv_2293 wv_63 wv_173 wv_2294) rfl rfl rfl (by decide +kernel) ⟨Nat.le_of_ble_eq_true rfl, Nat.le_of_ble_eq_true rfl⟩) (dc_preV hE hP hD hS hA rfl 0 rfl) rfl rfl hl.1 rfl (lv_room (Nat.le_of_ble_eq_true rfl)) dM_balance_15 ⟨Nat.le_of_ble_eq_true rfl, Nat.le_of_ble_eq_true rfl⟩) hP hD hS hA (fun r_2 H locs hw_3 hP hD hS => ?_)
  subst r_2
  refine lv_if_eq (tgt := 23) hx hb dM_balance_18 (by decide) (fun c_4 => ?_) (fun c_4 => ?_)
  · have h := op_t c_4 h
    refine lv_aload_n hx hb dM_balance_23 rfl (lv_at hl 0 rfl) ?_
    obtain ⟨q_5, hq_5, h⟩ := op_b h
    refine dc_callv (va_runV (As := []) (rest := []) ⟨hx, hb, hml, hown, hts⟩ (mM_look l D K _ h0 a0 q_1.2 _ hq_5) (cwV 0 hts (cf_GV wv_2432 wv_2434 wv_90 wv_173 wv_2435) rfl rfl rfl (by decide +kernel) ⟨Nat.le_of_ble_eq_true rfl, Nat.le_of_ble_eq_true rfl⟩) (dc_preV hE hP hD hS hA rfl 0 rfl) rfl rfl hl.1 rfl (lv_room (Nat.le_of_ble_eq_true rfl)) dM_balance_24 ⟨Nat.le_of_ble_eq_true rfl, Nat.le_of_ble_eq_true rfl⟩) hP hD hS hA (fun H locs hP hD hS => ?_)
    refine lv_aload_n hx hb dM_balance_27 rfl (lv_at hl 0 rfl) ?_
    refine lv_aload_n hx hb dM_balance_28 rfl (lv_at hl 0 rfl) ?_
    obtain ⟨q_7, hq_7, h⟩ := op_b h
    refine dc_calli (va_runV (As := []) (rest := [.ref h0]) ⟨hx, hb, hml, hown, hts⟩ (mM_base l D K _ h0 a0 q_5 _ hq_7) (cwV 0 hts (cf_GV wv_2412 wv_2414 wv_88 wv_173 wv_2415) rfl rfl rfl (by decide +kernel) ⟨Nat.le_of_ble_eq_true rfl, Nat.le_of_ble_eq_true rfl⟩) (dc_preV hE hP hD hS hA rfl 0 rfl) rfl rfl hl.1 rfl (lv_room (Nat.le_of_ble_eq_true rfl)) dM_balance_29 ⟨Nat.le_of_ble_eq_true rfl, Nat.le_of_ble_eq_true rfl⟩) hP hD hS hA (fun r_8 H locs hw_9 hP hD hS => ?_)
    subst r_8
    obtain ⟨q_10, hq_10, h⟩ := op_b h
    refine dc_callv (va_runV (As := [.int q_7]) (rest := []) ⟨hx, hb, hml, hown, hts⟩ (mM_begin l D K _ q_7 h0 a0 q_5 _ hq_10) (cwV 1 hts (cf_GV wv_2368 wv_2370 wv_80 wv_173 wv_2371) rfl rfl rfl (by decide +kernel) ⟨Nat.le_of_ble_eq_true rfl, Nat.le_of_ble_eq_true rfl⟩) (dc_preV hE hP hD hS hA rfl 0 rfl) rfl rfl hl.1 rfl (lv_room (Nat.le_of_ble_eq_true rfl)) dM_balance_32 ⟨Nat.le_of_ble_eq_true rfl, Nat.le_of_ble_eq_true rfl⟩) hP hD hS hA (fun H locs hP hD hS => ?_)
    refine lv_aload_n hx hb dM_balance_35 rfl (lv_at hl 0 rfl) ?_
    obtain ⟨q_12, hq_12, h⟩ := op_b h
    refine dc_callv (va_runV (As := []) (rest := []) ⟨hx, hb, hml, hown, hts⟩ (mM_old l D K _ h0 a0 q_10 _ hq_12) (cwV 0 hts (cf_GV wv_2440 wv_2442 wv_92 wv_173 wv_2443) rfl rfl rfl (by decide +kernel) ⟨Nat.le_of_ble_eq_true rfl, Nat.le_of_ble_eq_true rfl⟩) (dc_preV hE hP hD hS hA rfl 0 rfl) rfl rfl hl.1 rfl (lv_room (Nat.le_of_ble_eq_true rfl)) dM_balance_36 ⟨Nat.le_of_ble_eq_true rfl, Nat.le_of_ble_eq_true rfl⟩) hP hD hS hA (fun H locs hP hD hS => ?_)
    refine lv_iconst (v := 0) hx hb dM_balance_39 (by decide) ?_
    refine lv_istore_n (lv' := [(1, .int 0), (0, .ref h0)]) hx hb dM_balance_40 rfl hl (by decide) rfl (fun ls hl => ?_)
    exact (ih.1) _ _ _ h hP hD hS (lv_sub hl [1, 0] rfl)
  · have h := op_f c_4 h
    refine lv_iconst (v := 0) hx hb dM_balance_21 (by decide) ?_
    obtain rfl := Option.some.inj h
    exact dc_iret hx hb hr hlocks rfl hP hD hS dM_balance_22
set_option maxHeartbeats 4000000 in
set_option maxRecDepth 100000 in
theorem bM_balance_0 {p : Program} {l : Launch} {e : Env} {s : State} {m : MethodId} {below : List Frame} {meth : Method} {c : Code} {A : Nat → Prop} {D : va_G} {K : Nat → ClassId} {h0 : Nat} {a0 : Nat → Nat} {AR : Array Value} (C : (dc_C p s m AR meth c cM_balance 4 (Option.some Jvm.ClassFile.FieldType.int) yM_balance ∧ cf_E D K A s s.heap ∧ ∀ q, s.heap.size ≤ q → A q)) {n : Nat} (ih : IhM_balance p l e s m below meth c A D K h0 a0 AR n) (o0 : cf_O) (r : Int32 × cf_O) (h : fM_balance_0 (gM_balance n) o0 = some r) {H : Heap} {locs : List Loc} {ls : Array Slot} (hP : va_P D vwCl (wM K h0 a0 o0) H) (hD : va_D A (wM K h0 a0 o0)) (hS : va_S A s.heap H locs) (hl : lv_has ls 4 [(0, .ref h0)]) : W p l e ({ frames := 3, cells := 0, slots := 0, locals := 64 }) s m AR below meth c H locs 0 0 (MQ below (va_Qi (fun (x : Int32) (_ : Unit) => x = r.1) (fun (_ : Unit) t => cf_At D A (wM K h0 a0 r.2) t) A) AR s 0 0 A) (F0 m 0 ls []) := by
  obtain ⟨⟨hx, hb, hr, hts, hown, hlocks, hin, hml⟩, hE, hA⟩ := id C
  have hK := hE.k
  refine lv_aload_n hx hb dM_balance_0 rfl (lv_at hl 0 rfl) ?_
  refine lv_aload_n hx hb dM_balance_1 rfl (lv_at hl 0 rfl) ?_
  refine va_get (D := D) (ci := 12) (v := .int (o0.1 38)) (C := RM) (T := TM) (N := 99) hx hb hts inM hown hK hP 0 rfl rfl 38 (by decide) (hts _ wv_2020) (fun _ h9 => h9) rfl dM_balance_2 ?_
  refine lv_if_ne (tgt := 12) hx hb dM_balance_5 (by decide) (fun c_1 => ?_) (fun c_1 => ?_)
  · have h := op_f c_1 h
    refine lv_iconst (v := 0) hx hb dM_balance_12 (by decide) ?_
    exact bM_balance_13 C ih _ _ _ h hP hD hS (lv_sub hl [0] rfl)
  · have h := op_t c_1 h
    refine lv_iconst (v := 1) hx hb dM_balance_8 (by decide) ?_
    refine lv_goto (tgt := 13) hx hb dM_balance_9 (by decide) ?_
    exact bM_balance_13 C ih _ _ _ h hP hD hS (lv_sub hl [0] rfl)
theorem iiM_balance {p : Program} {l : Launch} {e : Env} {s : State} {m : MethodId} {below : List Frame} {meth : Method} {c : Code} {A : Nat → Prop} {D : va_G} {K : Nat → ClassId} {h0 : Nat} {a0 : Nat → Nat} {AR : Array Value} (C : (dc_C p s m AR meth c cM_balance 4 (Option.some Jvm.ClassFile.FieldType.int) yM_balance ∧ cf_E D K A s s.heap ∧ ∀ q, s.heap.size ≤ q → A q)) : ∀ n, IhM_balance p l e s m below meth c A D K h0 a0 AR n := by
  intro n
  induction n with
  | zero => exact ⟨(fun _ _ r h => by cases (show none = some r from h)), (fun _ _ r h => by cases (show none = some r from h))⟩
  | succ n ih => exact ⟨fun x0 x1 r h _ _ _ hP hD hS hl => bM_balance_41 C ih x0 x1 r h hP hD hS hl, fun x0 x1 r h _ _ _ hP hD hS hl => bM_balance_85 C ih x0 x1 r h hP hD hS hl⟩
set_option maxRecDepth 100000 in
theorem mM_balance (l : Launch) (D : va_G) (K : Nat → ClassId) (sz : Nat) (h0 : Nat) (a0 : Nat → Nat) (o0 : cf_O) (r : Int32 × cf_O) (h : fM_balance o0 = some r) : Met l yM_balance (Cond.code yM_balance cM_balance 4 (Option.some Jvm.ClassFile.FieldType.int) :: cfB) ({ frames := 3, cells := 0, slots := 0, locals := 64 }) (va_Pc [.ref h0] (cf_Pre D K sz (wM K h0 a0 o0))) (va_Qi (fun (x : Int32) (_ : Unit) => x = r.1) (fun (_ : Unit) t => cf_At D (va_A (wM K h0 a0 o0) sz) (wM K h0 a0 r.2) t) (va_A (wM K h0 a0 o0) sz)) 0 0 (va_A (wM K h0 a0 o0) sz) := by
  refine cf_ofW (y := yM_balance) (As := [.ref h0]) (WS := wM K h0 a0 o0) (maxL := 4) (fun A => (va_Qi (fun (x : Int32) (_ : Unit) => x = r.1) (fun (_ : Unit) t => cf_At D A (wM K h0 a0 r.2) t) A)) (by decide) (Nat.le_of_ble_eq_true rfl) ?_
  intro p e s m below meth c A ls En hsz hA hP hD hE hS hl
  have C : (dc_C p s m (([.ref h0] : List Value).toArray) meth c cM_balance 4 (Option.some Jvm.ClassFile.FieldType.int) yM_balance ∧ cf_E D K A s s.heap ∧ ∀ q, s.heap.size ≤ q → A q) := ⟨En, hE, hA⟩
  exact bM_balance_0 C (iiM_balance C cfFU) o0 r h hP hD hS hl
def IhM_reckon (p : Program) (l : Launch) (e : Env) (s : State) (m : MethodId) (below : List Frame) (meth : Method) (c : Code) (A : Nat → Prop) (D : va_G) (K : Nat → ClassId) (h0 : Nat) (a0 : Nat → Nat) (AR : Array Value) (n : Nat) : Prop := (∀ (v1 : Int32) (v2 : Int32) (o0 : cf_O) (r : cf_O), gM_reckon n 0 v1 v2 0 o0 = some r → ∀ {H : Heap} {locs : List Loc} {ls : Array Slot}, (va_P D vwCl (wM K h0 a0 o0) H) → (va_D A (wM K h0 a0 o0)) → va_S A s.heap H locs → lv_has ls 4 [(0, .ref h0), (1, .int v1), (2, .int v2)] → W p l e ({ frames := 2, cells := 0, slots := 0, locals := 46 }) s m AR below meth c H locs 0 0 (MQ below (va_Qv (fun (_ : Unit) => True) (fun (_ : Unit) t => cf_At D A (wM K h0 a0 r) t) A) AR s 0 0 A) (F0 m 9 ls [])) ∧ (∀ (v1 : Int32) (v2 : Int32) (o0 : cf_O) (r : cf_O), gM_reckon n 1 v1 v2 0 o0 = some r → ∀ {H : Heap} {locs : List Loc} {ls : Array Slot}, (va_P D vwCl (wM K h0 a0 o0) H) → (va_D A (wM K h0 a0 o0)) → va_S A s.heap H locs → lv_has ls 4 [(0, .ref h0), (1, .int v1), (2, .int v2)] → W p l e ({ frames := 2, cells := 0, slots := 0, locals := 46 }) s m AR below meth c H locs 0 0 (MQ below (va_Qv (fun (_ : Unit) => True) (fun (_ : Unit) t => cf_At D A (wM K h0 a0 r) t) A) AR s 0 0 A) (F0 m 31 ls [])) ∧ (∀ (v1 : Int32) (v2 : Int32) (v3 : Int32) (o0 : cf_O) (r : cf_O), gM_reckon n 2 v1 v2 v3 o0 = some r → ∀ {H : Heap} {locs : List Loc} {ls : Array Slot}, (va_P D vwCl (wM K h0 a0 o0) H) → (va_D A (wM K h0 a0 o0)) → va_S A s.heap H locs → lv_has ls 4 [(0, .ref h0), (1, .int v1), (2, .int v2), (3, .int v3)] → W p l e ({ frames := 2, cells := 0, slots := 0, locals := 46 }) s m AR below meth c H locs 0 0 (MQ below (va_Qv (fun (_ : Unit) => True) (fun (_ : Unit) t => cf_At D A (wM K h0 a0 r) t) A) AR s 0 0 A) (F0 m 44 ls []))
set_option maxHeartbeats 4000000 in
set_option maxRecDepth 100000 in
theorem bM_reckon_114 {p : Program} {l : Launch} {e : Env} {s : State} {m : MethodId} {below : List Frame} {meth : Method} {c : Code} {A : Nat → Prop} {D : va_G} {K : Nat → ClassId} {h0 : Nat} {a0 : Nat → Nat} {AR : Array Value} (C : (dc_C p s m AR meth c cM_reckon 4 (Option.none : Option Jvm.ClassFile.FieldType) yM_reckon ∧ cf_E D K A s s.heap ∧ ∀ q, s.heap.size ≤ q → A q)) {n : Nat} (ih : IhM_reckon p l e s m below meth c A D K h0 a0 AR n) (v1 : Int32) (v2 : Int32) (v3 : Int32) (s1 : Int32) (s2 : Int64) (o0 : cf_O) (r : cf_O) (h : fM_reckon_114 (gM_reckon n) v1 v2 v3 s1 s2 o0 = some r) {H : Heap} {locs : List Loc} {ls : Array Slot} (hP : va_P D vwCl (wM K h0 a0 o0) H) (hD : va_D A (wM K h0 a0 o0)) (hS : va_S A s.heap H locs) (hl : lv_has ls 4 [(0, .ref h0), (1, .int v1), (2, .int v2), (3, .int v3)]) : W p l e ({ frames := 2, cells := 0, slots := 0, locals := 46 }) s m AR below meth c H locs 0 0 (MQ below (va_Qv (fun (_ : Unit) => True) (fun (_ : Unit) t => cf_At D A (wM K h0 a0 r) t) A) AR s 0 0 A) (F0 m 114 ls [.long s2, .int s1, .ref (a0 56)]) := by
  obtain ⟨⟨hx, hb, hr, hts, hown, hlocks, hin, hml⟩, hE, hA⟩ := id C
  have hK := hE.k
  obtain ⟨hi_1, h⟩ := op_n h
  refine va_last (D := D) hx hb hK hP hD hS 37 1 rfl rfl hi_1 dM_reckon_114 (fun H locs hP hD hS => ?_)
  have hP : va_P D vwCl (wM K h0 a0 (yp o0 56 s1.toNatClampNeg s2)) H := hP
  have hD : va_D A (wM K h0 a0 (yp o0 56 s1.toNatClampNeg s2)) := hD
  obtain ⟨o_2, eo_2, h⟩ := op_kx h
  rw [← eo_2] at hP hD
  obtain ⟨x_3, ex_3⟩ : ∃ y : Int32, y = v3 + 1 := ⟨_, rfl⟩
  refine lv_iinc (v := x_3) (lv' := [(3, .int x_3), (0, .ref h0), (1, .int v1), (2, .int v2)]) hx hb dM_reckon_115 hl (k := 3) rfl (by rw [ex_3]; rfl) (by decide) rfl (fun ls hl => ?_)
  have h := op_ks ex_3 h
  refine lv_goto (tgt := 44) hx hb dM_reckon_118 (by decide) ?_
  exact (ih.2.2) _ _ _ _ _ h hP hD hS (lv_sub hl [1, 2, 3, 0] rfl)
set_option maxHeartbeats 4000000 in
set_option maxRecDepth 100000 in
theorem bM_reckon_44 {p : Program} {l : Launch} {e : Env} {s : State} {m : MethodId} {below : List Frame} {meth : Method} {c : Code} {A : Nat → Prop} {D : va_G} {K : Nat → ClassId} {h0 : Nat} {a0 : Nat → Nat} {AR : Array Value} (C : (dc_C p s m AR meth c cM_reckon 4 (Option.none : Option Jvm.ClassFile.FieldType) yM_reckon ∧ cf_E D K A s s.heap ∧ ∀ q, s.heap.size ≤ q → A q)) {n : Nat} (ih : IhM_reckon p l e s m below meth c A D K h0 a0 AR n) (v1 : Int32) (v2 : Int32) (v3 : Int32) (o0 : cf_O) (r : cf_O) (h : fM_reckon_44 (gM_reckon n) v1 v2 v3 o0 = some r) {H : Heap} {locs : List Loc} {ls : Array Slot} (hP : va_P D vwCl (wM K h0 a0 o0) H) (hD : va_D A (wM K h0 a0 o0)) (hS : va_S A s.heap H locs) (hl : lv_has ls 4 [(0, .ref h0), (1, .int v1), (2, .int v2), (3, .int v3)]) : W p l e ({ frames := 2, cells := 0, slots := 0, locals := 46 }) s m AR below meth c H locs 0 0 (MQ below (va_Qv (fun (_ : Unit) => True) (fun (_ : Unit) t => cf_At D A (wM K h0 a0 r) t) A) AR s 0 0 A) (F0 m 44 ls []) := by
  obtain ⟨⟨hx, hb, hr, hts, hown, hlocks, hin, hml⟩, hE, hA⟩ := id C
  have hK := hE.k
  refine lv_iload_n hx hb dM_reckon_44 rfl (lv_at hl 3 rfl) ?_
  refine lv_aload_n hx hb dM_reckon_45 rfl (lv_at hl 0 rfl) ?_
  obtain ⟨q_1, hq_1, h⟩ := op_b h
  refine dc_calli (va_runV (As := []) (rest := [.int v3]) ⟨hx, hb, hml, hown, hts⟩ (mM_base l D K _ h0 a0 o0 _ hq_1) (cwV 0 hts (cf_GV wv_2412 wv_2414 wv_88 wv_173 wv_2415) rfl rfl rfl (by decide +kernel) ⟨Nat.le_of_ble_eq_true rfl, Nat.le_of_ble_eq_true rfl⟩) (dc_preV hE hP hD hS hA rfl 0 rfl) rfl rfl hl.1 rfl (lv_room (Nat.le_of_ble_eq_true rfl)) dM_reckon_46 ⟨Nat.le_of_ble_eq_true rfl, Nat.le_of_ble_eq_true rfl⟩) hP hD hS hA (fun r_2 H locs hw_3 hP hD hS => ?_)
  subst r_2
  refine lv_aload_n hx hb dM_reckon_49 rfl (lv_at hl 0 rfl) ?_
  refine va_get (D := D) (ci := 12) (v := .int (o0.1 43)) (C := RM) (T := TM) (N := 99) hx hb hts inM hown hK hP 0 rfl rfl 43 (by decide) (hts _ wv_2025) (fun _ h9 => h9) rfl dM_reckon_50 ?_
  refine lv_iadd hx hb dM_reckon_53 ?_
  refine lv_topi (fun x_4 ex_4 => ?_)
  have h := op_ks ex_4 h
  refine lv_icmp_ge (tgt := 121) hx hb dM_reckon_54 (by decide) (fun c_5 => ?_) (fun c_5 => ?_)
  · have h := op_t c_5 h
    obtain ⟨x_6, ex_6⟩ : ∃ y : Int32, y = v2 + 1 := ⟨_, rfl⟩
    refine lv_iinc (v := x_6) (lv' := [(2, .int x_6), (0, .ref h0), (1, .int v1), (3, .int v3)]) hx hb dM_reckon_121 hl (k := 2) rfl (by rw [ex_6]; rfl) (by decide) rfl (fun ls hl => ?_)
    have h := op_ks ex_6 h
    refine lv_goto (tgt := 31) hx hb dM_reckon_124 (by decide) ?_
    exact (ih.2.1) _ _ _ _ h hP hD hS (lv_sub hl [1, 2, 0] rfl)
  · have h := op_f c_5 h
    refine lv_aload_n hx hb dM_reckon_57 rfl (lv_at hl 0 rfl) ?_
    refine va_get (D := D) (ci := 12) (v := .ref (a0 56)) (C := RM) (T := TM) (N := 99) hx hb hts inM hown hK hP 0 rfl rfl 56 (by decide) (hts _ wv_2038) (fun _ h9 => h9) rfl dM_reckon_58 ?_
    refine lv_iconst (v := 4) hx hb dM_reckon_61 (by decide) ?_
    refine lv_iload_n hx hb dM_reckon_62 rfl (lv_at hl 3 rfl) ?_
    refine lv_imul hx hb dM_reckon_63 ?_
    refine lv_topi (fun x_7 ex_7 => ?_)
    have h := op_ks ex_7 h
    refine lv_iload_n hx hb dM_reckon_64 rfl (lv_at hl 2 rfl) ?_
    refine lv_bipush (v := 64) hx hb dM_reckon_65 (by decide) ?_
    refine lv_idiv hx hb dM_reckon_67 (by decide) ?_
    refine lv_topi (fun x_8 ex_8 => ?_)
    have h := op_ks ex_8 h
    refine lv_iadd hx hb dM_reckon_68 ?_
    refine lv_topi (fun x_9 ex_9 => ?_)
    have h := op_ks ex_9 h
    refine lv_aload_n hx hb dM_reckon_69 rfl (lv_at hl 0 rfl) ?_
    refine va_get (D := D) (ci := 12) (v := .ref (a0 75)) (C := RM) (T := TM) (N := 99) hx hb hts inM hown hK hP 0 rfl rfl 75 (by decide) (hts _ wv_2057) (fun _ h9 => h9) rfl dM_reckon_70 ?_
    refine lv_iload_n hx hb dM_reckon_73 rfl (lv_at hl 3 rfl) ?_
    obtain ⟨hi_10, h⟩ := op_n h
    refine va_zald (D := D) hx hb hK hP 51 3 rfl rfl hi_10 dM_reckon_74 ?_
    refine lv_topi (fun x_11 ex_11 => ?_)
    have h := op_ks ex_11 h
    refine lv_if_eq (tgt := 101) hx hb dM_reckon_75 (by decide) (fun c_12 => ?_) (fun c_12 => ?_)
    · have h := op_t c_12 h
      refine lv_aload_n hx hb dM_reckon_101 rfl (lv_at hl 0 rfl) ?_
      refine va_get (D := D) (ci := 12) (v := .ref (a0 56)) (C := RM) (T := TM) (N := 99) hx hb hts inM hown hK hP 0 rfl rfl 56 (by decide) (hts _ wv_2038) (fun _ h9 => h9) rfl dM_reckon_102 ?_
      refine lv_iconst (v := 4) hx hb dM_reckon_105 (by decide) ?_
      refine lv_iload_n hx hb dM_reckon_106 rfl (lv_at hl 3 rfl) ?_
      refine lv_imul hx hb dM_reckon_107 ?_
      refine lv_topi (fun x_13 ex_13 => ?_)
      have h := op_ks ex_13 h
      refine lv_iload_n hx hb dM_reckon_108 rfl (lv_at hl 2 rfl) ?_
      refine lv_bipush (v := 64) hx hb dM_reckon_109 (by decide) ?_
      refine lv_idiv hx hb dM_reckon_111 (by decide) ?_
      refine lv_topi (fun x_14 ex_14 => ?_)
      have h := op_ks ex_14 h
      refine lv_iadd hx hb dM_reckon_112 ?_
      refine lv_topi (fun x_15 ex_15 => ?_)
      have h := op_ks ex_15 h
      obtain ⟨hi_16, h⟩ := op_n h
      refine va_lald (D := D) hx hb hK hP 37 1 rfl rfl hi_16 dM_reckon_113 ?_
      refine lv_topl (fun x_17 ex_17 => ?_)
      have h := op_ks ex_17 h
      exact bM_reckon_114 C ih _ _ _ _ _ _ _ h hP hD hS (lv_sub hl [0, 1, 2, 3] rfl)
    · have h := op_f c_12 h
      refine lv_aload_n hx hb dM_reckon_78 rfl (lv_at hl 0 rfl) ?_
      refine va_get (D := D) (ci := 12) (v := .ref (a0 56)) (C := RM) (T := TM) (N := 99) hx hb hts inM hown hK hP 0 rfl rfl 56 (by decide) (hts _ wv_2038) (fun _ h9 => h9) rfl dM_reckon_79 ?_
      refine lv_iconst (v := 4) hx hb dM_reckon_82 (by decide) ?_
      refine lv_iload_n hx hb dM_reckon_83 rfl (lv_at hl 3 rfl) ?_
      refine lv_imul hx hb dM_reckon_84 ?_
      refine lv_topi (fun x_18 ex_18 => ?_)
      have h := op_ks ex_18 h
      refine lv_iload_n hx hb dM_reckon_85 rfl (lv_at hl 2 rfl) ?_
      refine lv_bipush (v := 64) hx hb dM_reckon_86 (by decide) ?_
      refine lv_idiv hx hb dM_reckon_88 (by decide) ?_
      refine lv_topi (fun x_19 ex_19 => ?_)
      have h := op_ks ex_19 h
      refine lv_iadd hx hb dM_reckon_89 ?_
      refine lv_topi (fun x_20 ex_20 => ?_)
      have h := op_ks ex_20 h
      obtain ⟨hi_21, h⟩ := op_n h
      refine va_lald (D := D) hx hb hK hP 37 1 rfl rfl hi_21 dM_reckon_90 ?_
      refine lv_topl (fun x_22 ex_22 => ?_)
      have h := op_ks ex_22 h
      refine lv_lconst (v := 1) hx hb dM_reckon_91 (by decide) ?_
      refine lv_iload_n hx hb dM_reckon_92 rfl (lv_at hl 2 rfl) ?_
      refine lv_bipush (v := 64) hx hb dM_reckon_93 (by decide) ?_
      refine lv_irem hx hb dM_reckon_95 (by decide) ?_
      refine lv_topi (fun x_23 ex_23 => ?_)
      have h := op_ks ex_23 h
      refine lv_lshl hx hb dM_reckon_96 rfl ?_
      refine lv_topl (fun x_24 ex_24 => ?_)
      have h := op_ks ex_24 h
      refine lv_lor hx hb dM_reckon_97 ?_
      refine lv_topl (fun x_25 ex_25 => ?_)
      have h := op_ks ex_25 h
      refine lv_goto (tgt := 114) hx hb dM_reckon_98 (by decide) ?_
      exact bM_reckon_114 C ih _ _ _ _ _ _ _ h hP hD hS (lv_sub hl [0, 1, 2, 3] rfl)
set_option maxHeartbeats 4000000 in
set_option maxRecDepth 100000 in
theorem bM_reckon_31 {p : Program} {l : Launch} {e : Env} {s : State} {m : MethodId} {below : List Frame} {meth : Method} {c : Code} {A : Nat → Prop} {D : va_G} {K : Nat → ClassId} {h0 : Nat} {a0 : Nat → Nat} {AR : Array Value} (C : (dc_C p s m AR meth c cM_reckon 4 (Option.none : Option Jvm.ClassFile.FieldType) yM_reckon ∧ cf_E D K A s s.heap ∧ ∀ q, s.heap.size ≤ q → A q)) {n : Nat} (ih : IhM_reckon p l e s m below meth c A D K h0 a0 AR n) (v1 : Int32) (v2 : Int32) (o0 : cf_O) (r : cf_O) (h : fM_reckon_31 (gM_reckon n) v1 v2 o0 = some r) {H : Heap} {locs : List Loc} {ls : Array Slot} (hP : va_P D vwCl (wM K h0 a0 o0) H) (hD : va_D A (wM K h0 a0 o0)) (hS : va_S A s.heap H locs) (hl : lv_has ls 4 [(0, .ref h0), (1, .int v1), (2, .int v2)]) : W p l e ({ frames := 2, cells := 0, slots := 0, locals := 46 }) s m AR below meth c H locs 0 0 (MQ below (va_Qv (fun (_ : Unit) => True) (fun (_ : Unit) t => cf_At D A (wM K h0 a0 r) t) A) AR s 0 0 A) (F0 m 31 ls []) := by
  obtain ⟨⟨hx, hb, hr, hts, hown, hlocks, hin, hml⟩, hE, hA⟩ := id C
  have hK := hE.k
  refine lv_iload_n hx hb dM_reckon_31 rfl (lv_at hl 2 rfl) ?_
  refine lv_iload_n hx hb dM_reckon_32 rfl (lv_at hl 1 rfl) ?_
  refine lv_icmp_ge (tgt := 127) hx hb dM_reckon_33 (by decide) (fun c_1 => ?_) (fun c_1 => ?_)
  · have h := op_t c_1 h
    obtain rfl := Option.some.inj h
    exact dc_vret hx hb hr hlocks rfl hP hD hS dM_reckon_127
  · have h := op_f c_1 h
    refine lv_aload_n hx hb dM_reckon_36 rfl (lv_at hl 0 rfl) ?_
    refine lv_iload_n hx hb dM_reckon_37 rfl (lv_at hl 2 rfl) ?_
    obtain ⟨q_2, hq_2, h⟩ := op_b h
    refine dc_calli (va_runV (As := [.int v2]) (rest := []) ⟨hx, hb, hml, hown, hts⟩ (mM_value l D K _ v2 h0 a0 o0 _ hq_2) (cwV 1 hts (cf_GV wv_2464 wv_2421 wv_2422 wv_173 wv_2423) rfl rfl rfl (by decide +kernel) ⟨Nat.le_of_ble_eq_true rfl, Nat.le_of_ble_eq_true rfl⟩) (dc_preV hE hP hD hS hA rfl 0 rfl) rfl rfl hl.1 rfl (lv_room (Nat.le_of_ble_eq_true rfl)) dM_reckon_38 ⟨Nat.le_of_ble_eq_true rfl, Nat.le_of_ble_eq_true rfl⟩) hP hD hS hA (fun r_3 H locs hw_4 hP hD hS => ?_)
    subst r_3
    refine lv_pop hx hb dM_reckon_41 rfl ?_
    refine lv_iconst (v := 0) hx hb dM_reckon_42 (by decide) ?_
    refine lv_istore_n (lv' := [(3, .int 0), (0, .ref h0), (1, .int v1), (2, .int v2)]) hx hb dM_reckon_43 rfl hl (by decide) rfl (fun ls hl => ?_)
    exact (ih.2.2) _ _ _ _ _ h hP hD hS (lv_sub hl [1, 2, 3, 0] rfl)
set_option maxHeartbeats 4000000 in
set_option maxRecDepth 100000 in
theorem bM_reckon_9 {p : Program} {l : Launch} {e : Env} {s : State} {m : MethodId} {below : List Frame} {meth : Method} {c : Code} {A : Nat → Prop} {D : va_G} {K : Nat → ClassId} {h0 : Nat} {a0 : Nat → Nat} {AR : Array Value} (C : (dc_C p s m AR meth c cM_reckon 4 (Option.none : Option Jvm.ClassFile.FieldType) yM_reckon ∧ cf_E D K A s s.heap ∧ ∀ q, s.heap.size ≤ q → A q)) {n : Nat} (ih : IhM_reckon p l e s m below meth c A D K h0 a0 AR n) (v1 : Int32) (v2 : Int32) (o0 : cf_O) (r : cf_O) (h : fM_reckon_9 (gM_reckon n) v1 v2 o0 = some r) {H : Heap} {locs : List Loc} {ls : Array Slot} (hP : va_P D vwCl (wM K h0 a0 o0) H) (hD : va_D A (wM K h0 a0 o0)) (hS : va_S A s.heap H locs) (hl : lv_has ls 4 [(0, .ref h0), (1, .int v1), (2, .int v2)]) : W p l e ({ frames := 2, cells := 0, slots := 0, locals := 46 }) s m AR below meth c H locs 0 0 (MQ below (va_Qv (fun (_ : Unit) => True) (fun (_ : Unit) t => cf_At D A (wM K h0 a0 r) t) A) AR s 0 0 A) (F0 m 9 ls []) := by
  obtain ⟨⟨hx, hb, hr, hts, hown, hlocks, hin, hml⟩, hE, hA⟩ := id C
  have hK := hE.k
  refine lv_iload_n hx hb dM_reckon_9 rfl (lv_at hl 2 rfl) ?_
  refine lv_sipush (v := 840) hx hb dM_reckon_10 (by decide) ?_
  refine lv_icmp_ge (tgt := 29) hx hb dM_reckon_13 (by decide) (fun c_1 => ?_) (fun c_1 => ?_)
  · have h := op_t c_1 h
    refine lv_iconst (v := 0) hx hb dM_reckon_29 (by decide) ?_
    refine lv_istore_n (lv' := [(2, .int 0), (0, .ref h0), (1, .int v1)]) hx hb dM_reckon_30 rfl hl (by decide) rfl (fun ls hl => ?_)
    exact (ih.2.1) _ _ _ _ h hP hD hS (lv_sub hl [1, 2, 0] rfl)
  · have h := op_f c_1 h
    refine lv_aload_n hx hb dM_reckon_16 rfl (lv_at hl 0 rfl) ?_
    refine va_get (D := D) (ci := 12) (v := .ref (a0 56)) (C := RM) (T := TM) (N := 99) hx hb hts inM hown hK hP 0 rfl rfl 56 (by decide) (hts _ wv_2038) (fun _ h9 => h9) rfl dM_reckon_17 ?_
    refine lv_iload_n hx hb dM_reckon_20 rfl (lv_at hl 2 rfl) ?_
    refine lv_lconst (v := 0) hx hb dM_reckon_21 (by decide) ?_
    obtain ⟨hi_2, h⟩ := op_n h
    refine va_last (D := D) hx hb hK hP hD hS 37 1 rfl rfl hi_2 dM_reckon_22 (fun H locs hP hD hS => ?_)
    have hP : va_P D vwCl (wM K h0 a0 (yp o0 56 v2.toNatClampNeg 0)) H := hP
    have hD : va_D A (wM K h0 a0 (yp o0 56 v2.toNatClampNeg 0)) := hD
    obtain ⟨o_3, eo_3, h⟩ := op_kx h
    rw [← eo_3] at hP hD
    obtain ⟨x_4, ex_4⟩ : ∃ y : Int32, y = v2 + 1 := ⟨_, rfl⟩
    refine lv_iinc (v := x_4) (lv' := [(2, .int x_4), (0, .ref h0), (1, .int v1)]) hx hb dM_reckon_23 hl (k := 2) rfl (by rw [ex_4]; rfl) (by decide) rfl (fun ls hl => ?_)
    have h := op_ks ex_4 h
    refine lv_goto (tgt := 9) hx hb dM_reckon_26 (by decide) ?_
    exact (ih.1) _ _ _ _ h hP hD hS (lv_sub hl [1, 2, 0] rfl)
set_option maxHeartbeats 4000000 in
set_option maxRecDepth 100000 in
theorem bM_reckon_0 {p : Program} {l : Launch} {e : Env} {s : State} {m : MethodId} {below : List Frame} {meth : Method} {c : Code} {A : Nat → Prop} {D : va_G} {K : Nat → ClassId} {h0 : Nat} {a0 : Nat → Nat} {AR : Array Value} (C : (dc_C p s m AR meth c cM_reckon 4 (Option.none : Option Jvm.ClassFile.FieldType) yM_reckon ∧ cf_E D K A s s.heap ∧ ∀ q, s.heap.size ≤ q → A q)) {n : Nat} (ih : IhM_reckon p l e s m below meth c A D K h0 a0 AR n) (o0 : cf_O) (r : cf_O) (h : fM_reckon_0 (gM_reckon n) o0 = some r) {H : Heap} {locs : List Loc} {ls : Array Slot} (hP : va_P D vwCl (wM K h0 a0 o0) H) (hD : va_D A (wM K h0 a0 o0)) (hS : va_S A s.heap H locs) (hl : lv_has ls 4 [(0, .ref h0)]) : W p l e ({ frames := 2, cells := 0, slots := 0, locals := 46 }) s m AR below meth c H locs 0 0 (MQ below (va_Qv (fun (_ : Unit) => True) (fun (_ : Unit) t => cf_At D A (wM K h0 a0 r) t) A) AR s 0 0 A) (F0 m 0 ls []) := by
  obtain ⟨⟨hx, hb, hr, hts, hown, hlocks, hin, hml⟩, hE, hA⟩ := id C
  have hK := hE.k
  refine lv_iconst (v := 1) hx hb dM_reckon_0 (by decide) ?_
  refine lv_aload_n hx hb dM_reckon_1 rfl (lv_at hl 0 rfl) ?_
  refine va_get (D := D) (ci := 12) (v := .int (o0.1 39)) (C := RM) (T := TM) (N := 99) hx hb hts inM hown hK hP 0 rfl rfl 39 (by decide) (hts _ wv_2021) (fun _ h9 => h9) rfl dM_reckon_2 ?_
  refine lv_ishl hx hb dM_reckon_5 ?_
  refine lv_topi (fun x_1 ex_1 => ?_)
  have h := op_ks ex_1 h
  refine lv_istore_n (lv' := [(1, .int x_1), (0, .ref h0)]) hx hb dM_reckon_6 rfl hl (by decide) rfl (fun ls hl => ?_)
  refine lv_iconst (v := 0) hx hb dM_reckon_7 (by decide) ?_
  refine lv_istore_n (lv' := [(2, .int 0), (1, .int x_1), (0, .ref h0)]) hx hb dM_reckon_8 rfl hl (by decide) rfl (fun ls hl => ?_)
  exact (ih.1) _ _ _ _ h hP hD hS (lv_sub hl [2, 1, 0] rfl)
theorem iM_reckon {p : Program} {l : Launch} {e : Env} {s : State} {m : MethodId} {below : List Frame} {meth : Method} {c : Code} {A : Nat → Prop} {D : va_G} {K : Nat → ClassId} {h0 : Nat} {a0 : Nat → Nat} {AR : Array Value} (C : (dc_C p s m AR meth c cM_reckon 4 (Option.none : Option Jvm.ClassFile.FieldType) yM_reckon ∧ cf_E D K A s s.heap ∧ ∀ q, s.heap.size ≤ q → A q)) : ∀ n, IhM_reckon p l e s m below meth c A D K h0 a0 AR n := by
  intro n
  induction n with
  | zero => exact ⟨(fun _ _ _ r h => by cases (show none = some r from h)), (fun _ _ _ r h => by cases (show none = some r from h)), (fun _ _ _ _ r h => by cases (show none = some r from h))⟩
  | succ n ih => exact ⟨fun x0 x1 x2 r h _ _ _ hP hD hS hl => bM_reckon_9 C ih x0 x1 x2 r h hP hD hS hl, fun x0 x1 x2 r h _ _ _ hP hD hS hl => bM_reckon_31 C ih x0 x1 x2 r h hP hD hS hl, fun x0 x1 x2 x3 r h _ _ _ hP hD hS hl => bM_reckon_44 C ih x0 x1 x2 x3 r h hP hD hS hl⟩
set_option maxRecDepth 100000 in
theorem mM_reckon (l : Launch) (D : va_G) (K : Nat → ClassId) (sz : Nat) (h0 : Nat) (a0 : Nat → Nat) (o0 : cf_O) (r : cf_O) (h : fM_reckon o0 = some r) : Met l yM_reckon (Cond.code yM_reckon cM_reckon 4 (Option.none : Option Jvm.ClassFile.FieldType) :: cfB) ({ frames := 2, cells := 0, slots := 0, locals := 46 }) (va_Pc [.ref h0] (cf_Pre D K sz (wM K h0 a0 o0))) (va_Qv (fun (_ : Unit) => True) (fun (_ : Unit) t => cf_At D (va_A (wM K h0 a0 o0) sz) (wM K h0 a0 r) t) (va_A (wM K h0 a0 o0) sz)) 0 0 (va_A (wM K h0 a0 o0) sz) := by
  refine cf_ofW (y := yM_reckon) (As := [.ref h0]) (WS := wM K h0 a0 o0) (maxL := 4) (fun A => (va_Qv (fun (_ : Unit) => True) (fun (_ : Unit) t => cf_At D A (wM K h0 a0 r) t) A)) (by decide) (Nat.le_of_ble_eq_true rfl) ?_
  intro p e s m below meth c A ls En hsz hA hP hD hE hS hl
  have C : (dc_C p s m (([.ref h0] : List Value).toArray) meth c cM_reckon 4 (Option.none : Option Jvm.ClassFile.FieldType) yM_reckon ∧ cf_E D K A s s.heap ∧ ∀ q, s.heap.size ≤ q → A q) := ⟨En, hE, hA⟩
  exact bM_reckon_0 C (iM_reckon C cfFU) o0 r h hP hD hS hl
def IhM_agree (p : Program) (l : Launch) (e : Env) (s : State) (m : MethodId) (below : List Frame) (meth : Method) (c : Code) (A : Nat → Prop) (D : va_G) (K : Nat → ClassId) (h0 : Nat) (a0 : Nat → Nat) (AR : Array Value) (n : Nat) : Prop := (∀ (v1 : Int32) (v2 : Int32) (v3 : Int32) (v4 : Int32) (v5 : Int32) (v6 : Int32) (o0 : cf_O) (r : Int32), gM_agree n 0 v1 v2 v3 v4 v5 v6 o0 = some r → ∀ {H : Heap} {locs : List Loc} {ls : Array Slot}, (va_P D vwCl (wM K h0 a0 o0) H) → (va_D A (wM K h0 a0 o0)) → va_S A s.heap H locs → lv_has ls 9 [(0, .ref h0), (1, .int v1), (2, .int v2), (3, .int v3), (4, .int v4), (5, .int v5), (6, .int v6)] → W p l e ({ frames := 0, cells := 0, slots := 0, locals := 0 }) s m AR below meth c H locs 0 0 (MQ below (va_Qi (fun (x : Int32) (_ : Unit) => x = r) (fun (_ : Unit) t => cf_At D A (wM K h0 a0 o0) t) A) AR s 0 0 A) (F0 m 14 ls []))
set_option maxHeartbeats 4000000 in
set_option maxRecDepth 100000 in
theorem bM_agree_113 {p : Program} {l : Launch} {e : Env} {s : State} {m : MethodId} {below : List Frame} {meth : Method} {c : Code} {A : Nat → Prop} {D : va_G} {K : Nat → ClassId} {h0 : Nat} {a0 : Nat → Nat} {AR : Array Value} (C : (dc_C p s m AR meth c cM_agree 9 (Option.some Jvm.ClassFile.FieldType.boolean) yM_agree ∧ cf_E D K A s s.heap ∧ ∀ q, s.heap.size ≤ q → A q)) {n : Nat} (ih : IhM_agree p l e s m below meth c A D K h0 a0 AR n) (v1 : Int32) (v2 : Int32) (v3 : Int32) (v5 : Int32) (v6 : Int32) (s0 : Int32) (o0 : cf_O) (r : Int32) (h : fM_agree_113 (gM_agree n) v1 v2 v3 v5 v6 s0 o0 = some r) {H : Heap} {locs : List Loc} {ls : Array Slot} (hP : va_P D vwCl (wM K h0 a0 o0) H) (hD : va_D A (wM K h0 a0 o0)) (hS : va_S A s.heap H locs) (hl : lv_has ls 9 [(0, .ref h0), (1, .int v1), (2, .int v2), (3, .int v3), (5, .int v5), (6, .int v6)]) : W p l e ({ frames := 0, cells := 0, slots := 0, locals := 0 }) s m AR below meth c H locs 0 0 (MQ below (va_Qi (fun (x : Int32) (_ : Unit) => x = r) (fun (_ : Unit) t => cf_At D A (wM K h0 a0 o0) t) A) AR s 0 0 A) (F0 m 113 ls [.int s0]) := by
  obtain ⟨⟨hx, hb, hr, hts, hown, hlocks, hin, hml⟩, hE, hA⟩ := id C
  have hK := hE.k
  refine lv_istore (lv' := [(4, .int s0), (0, .ref h0), (1, .int v1), (2, .int v2), (3, .int v3), (5, .int v5), (6, .int v6)]) hx hb dM_agree_113 hl (by decide) rfl (fun ls hl => ?_)
  obtain ⟨x_1, ex_1⟩ : ∃ y : Int32, y = v6 + 1 := ⟨_, rfl⟩
  refine lv_iinc (v := x_1) (lv' := [(6, .int x_1), (4, .int s0), (0, .ref h0), (1, .int v1), (2, .int v2), (3, .int v3), (5, .int v5)]) hx hb dM_agree_115 hl (k := 6) rfl (by rw [ex_1]; rfl) (by decide) rfl (fun ls hl => ?_)
  have h := op_ks ex_1 h
  refine lv_goto (tgt := 14) hx hb dM_agree_118 (by decide) ?_
  exact (ih) _ _ _ _ _ _ _ _ h hP hD hS (lv_sub hl [2, 3, 4, 5, 1, 6, 0] rfl)
set_option maxHeartbeats 4000000 in
set_option maxRecDepth 100000 in
theorem bM_agree_112 {p : Program} {l : Launch} {e : Env} {s : State} {m : MethodId} {below : List Frame} {meth : Method} {c : Code} {A : Nat → Prop} {D : va_G} {K : Nat → ClassId} {h0 : Nat} {a0 : Nat → Nat} {AR : Array Value} (C : (dc_C p s m AR meth c cM_agree 9 (Option.some Jvm.ClassFile.FieldType.boolean) yM_agree ∧ cf_E D K A s s.heap ∧ ∀ q, s.heap.size ≤ q → A q)) {n : Nat} (ih : IhM_agree p l e s m below meth c A D K h0 a0 AR n) (v1 : Int32) (v2 : Int32) (v3 : Int32) (v5 : Int32) (v6 : Int32) (o0 : cf_O) (r : Int32) (h : fM_agree_112 (gM_agree n) v1 v2 v3 v5 v6 o0 = some r) {H : Heap} {locs : List Loc} {ls : Array Slot} (hP : va_P D vwCl (wM K h0 a0 o0) H) (hD : va_D A (wM K h0 a0 o0)) (hS : va_S A s.heap H locs) (hl : lv_has ls 9 [(0, .ref h0), (1, .int v1), (2, .int v2), (3, .int v3), (5, .int v5), (6, .int v6)]) : W p l e ({ frames := 0, cells := 0, slots := 0, locals := 0 }) s m AR below meth c H locs 0 0 (MQ below (va_Qi (fun (x : Int32) (_ : Unit) => x = r) (fun (_ : Unit) t => cf_At D A (wM K h0 a0 o0) t) A) AR s 0 0 A) (F0 m 112 ls []) := by
  obtain ⟨⟨hx, hb, hr, hts, hown, hlocks, hin, hml⟩, hE, hA⟩ := id C
  have hK := hE.k
  refine lv_iconst (v := 0) hx hb dM_agree_112 (by decide) ?_
  exact bM_agree_113 C ih _ _ _ _ _ _ _ _ h hP hD hS (lv_sub hl [0, 1, 2, 3, 4, 5] rfl)
set_option maxHeartbeats 4000000 in
set_option maxRecDepth 100000 in
theorem bM_agree_104 {p : Program} {l : Launch} {e : Env} {s : State} {m : MethodId} {below : List Frame} {meth : Method} {c : Code} {A : Nat → Prop} {D : va_G} {K : Nat → ClassId} {h0 : Nat} {a0 : Nat → Nat} {AR : Array Value} (C : (dc_C p s m AR meth c cM_agree 9 (Option.some Jvm.ClassFile.FieldType.boolean) yM_agree ∧ cf_E D K A s s.heap ∧ ∀ q, s.heap.size ≤ q → A q)) {n : Nat} (ih : IhM_agree p l e s m below meth c A D K h0 a0 AR n) (v1 : Int32) (v2 : Int32) (v3 : Int32) (v5 : Int32) (v6 : Int32) (s0 : Int64) (s1 : Int64) (o0 : cf_O) (r : Int32) (h : fM_agree_104 (gM_agree n) v1 v2 v3 v5 v6 s0 s1 o0 = some r) {H : Heap} {locs : List Loc} {ls : Array Slot} (hP : va_P D vwCl (wM K h0 a0 o0) H) (hD : va_D A (wM K h0 a0 o0)) (hS : va_S A s.heap H locs) (hl : lv_has ls 9 [(0, .ref h0), (1, .int v1), (2, .int v2), (3, .int v3), (5, .int v5), (6, .int v6)]) : W p l e ({ frames := 0, cells := 0, slots := 0, locals := 0 }) s m AR below meth c H locs 0 0 (MQ below (va_Qi (fun (x : Int32) (_ : Unit) => x = r) (fun (_ : Unit) t => cf_At D A (wM K h0 a0 o0) t) A) AR s 0 0 A) (F0 m 104 ls [.long s1, .long s0]) := by
  obtain ⟨⟨hx, hb, hr, hts, hown, hlocks, hin, hml⟩, hE, hA⟩ := id C
  have hK := hE.k
  refine W.lcmp hx hb dM_agree_104 ?_
  refine lv_topi (fun x_1 ex_1 => ?_)
  have h := op_ks ex_1 h
  refine lv_if_ne (tgt := 112) hx hb dM_agree_105 (by decide) (fun c_2 => ?_) (fun c_2 => ?_)
  · have h := op_f c_2 h
    exact bM_agree_112 C ih _ _ _ _ _ _ _ h hP hD hS (lv_sub hl [0, 1, 2, 3, 4, 5] rfl)
  · have h := op_t c_2 h
    refine lv_iconst (v := 1) hx hb dM_agree_108 (by decide) ?_
    refine lv_goto (tgt := 113) hx hb dM_agree_109 (by decide) ?_
    exact bM_agree_113 C ih _ _ _ _ _ _ _ _ h hP hD hS (lv_sub hl [0, 1, 2, 3, 4, 5] rfl)
set_option maxHeartbeats 4000000 in
set_option maxRecDepth 100000 in
theorem bM_agree_64 {p : Program} {l : Launch} {e : Env} {s : State} {m : MethodId} {below : List Frame} {meth : Method} {c : Code} {A : Nat → Prop} {D : va_G} {K : Nat → ClassId} {h0 : Nat} {a0 : Nat → Nat} {AR : Array Value} (C : (dc_C p s m AR meth c cM_agree 9 (Option.some Jvm.ClassFile.FieldType.boolean) yM_agree ∧ cf_E D K A s s.heap ∧ ∀ q, s.heap.size ≤ q → A q)) {n : Nat} (ih : IhM_agree p l e s m below meth c A D K h0 a0 AR n) (v1 : Int32) (v2 : Int32) (v3 : Int32) (v4 : Int32) (v5 : Int32) (v6 : Int32) (s0 : Int64) (o0 : cf_O) (r : Int32) (h : fM_agree_64 (gM_agree n) v1 v2 v3 v4 v5 v6 s0 o0 = some r) {H : Heap} {locs : List Loc} {ls : Array Slot} (hP : va_P D vwCl (wM K h0 a0 o0) H) (hD : va_D A (wM K h0 a0 o0)) (hS : va_S A s.heap H locs) (hl : lv_has ls 9 [(0, .ref h0), (1, .int v1), (2, .int v2), (3, .int v3), (4, .int v4), (5, .int v5), (6, .int v6)]) : W p l e ({ frames := 0, cells := 0, slots := 0, locals := 0 }) s m AR below meth c H locs 0 0 (MQ below (va_Qi (fun (x : Int32) (_ : Unit) => x = r) (fun (_ : Unit) t => cf_At D A (wM K h0 a0 o0) t) A) AR s 0 0 A) (F0 m 64 ls [.long s0]) := by
  obtain ⟨⟨hx, hb, hr, hts, hown, hlocks, hin, hml⟩, hE, hA⟩ := id C
  have hK := hE.k
  refine lv_lstore (lv' := [(7, .long s0), (0, .ref h0), (1, .int v1), (2, .int v2), (3, .int v3), (4, .int v4), (5, .int v5), (6, .int v6)]) hx hb dM_agree_64 hl (by decide) rfl (fun ls hl => ?_)
  refine lv_iload hx hb dM_agree_66 (lv_at hl 5 rfl) ?_
  refine lv_if_eq (tgt := 112) hx hb dM_agree_68 (by decide) (fun c_1 => ?_) (fun c_1 => ?_)
  · have h := op_t c_1 h
    exact bM_agree_112 C ih _ _ _ _ _ _ _ h hP hD hS (lv_sub hl [1, 2, 3, 4, 6, 7] rfl)
  · have h := op_f c_1 h
    refine lv_aload_n hx hb dM_agree_71 rfl (lv_at hl 1 rfl) ?_
    refine va_get (D := D) (ci := 12) (v := .ref (a0 56)) (C := RM) (T := TM) (N := 99) hx hb hts inM hown hK hP 0 rfl rfl 56 (by decide) (hts _ wv_2038) (fun _ h9 => h9) rfl dM_agree_72 ?_
    refine lv_iconst (v := 4) hx hb dM_agree_75 (by decide) ?_
    refine lv_iload_n hx hb dM_agree_76 rfl (lv_at hl 2 rfl) ?_
    refine lv_imul hx hb dM_agree_77 ?_
    refine lv_topi (fun x_2 ex_2 => ?_)
    have h := op_ks ex_2 h
    refine lv_iload hx hb dM_agree_78 (lv_at hl 7 rfl) ?_
    refine lv_iadd hx hb dM_agree_80 ?_
    refine lv_topi (fun x_3 ex_3 => ?_)
    have h := op_ks ex_3 h
    obtain ⟨hi_4, h⟩ := op_n h
    refine va_lald (D := D) hx hb hK hP 37 1 rfl rfl hi_4 dM_agree_81 ?_
    refine lv_topl (fun x_5 ex_5 => ?_)
    have h := op_ks ex_5 h
    refine lv_aload_n hx hb dM_agree_82 rfl (lv_at hl 1 rfl) ?_
    refine va_get (D := D) (ci := 12) (v := .ref (a0 56)) (C := RM) (T := TM) (N := 99) hx hb hts inM hown hK hP 0 rfl rfl 56 (by decide) (hts _ wv_2038) (fun _ h9 => h9) rfl dM_agree_83 ?_
    refine lv_iconst (v := 4) hx hb dM_agree_86 (by decide) ?_
    refine lv_iload_n hx hb dM_agree_87 rfl (lv_at hl 3 rfl) ?_
    refine lv_imul hx hb dM_agree_88 ?_
    refine lv_topi (fun x_6 ex_6 => ?_)
    have h := op_ks ex_6 h
    refine lv_iload hx hb dM_agree_89 (lv_at hl 7 rfl) ?_
    refine lv_iadd hx hb dM_agree_91 ?_
    refine lv_topi (fun x_7 ex_7 => ?_)
    have h := op_ks ex_7 h
    obtain ⟨hi_8, h⟩ := op_n h
    refine va_lald (D := D) hx hb hK hP 37 1 rfl rfl hi_8 dM_agree_92 ?_
    refine lv_topl (fun x_9 ex_9 => ?_)
    have h := op_ks ex_9 h
    refine lv_lxor hx hb dM_agree_93 ?_
    refine lv_topl (fun x_10 ex_10 => ?_)
    have h := op_ks ex_10 h
    refine lv_iload_n hx hb dM_agree_94 rfl (lv_at hl 4 rfl) ?_
    refine lv_if_eq (tgt := 103) hx hb dM_agree_95 (by decide) (fun c_11 => ?_) (fun c_11 => ?_)
    · have h := op_t c_11 h
      refine lv_lconst (v := 0) hx hb dM_agree_103 (by decide) ?_
      exact bM_agree_104 C ih _ _ _ _ _ _ _ _ _ h hP hD hS (lv_sub hl [1, 2, 3, 4, 6, 7] rfl)
    · have h := op_f c_11 h
      refine lv_lload hx hb dM_agree_98 (lv_at hl 0 rfl) ?_
      refine lv_goto (tgt := 104) hx hb dM_agree_100 (by decide) ?_
      exact bM_agree_104 C ih _ _ _ _ _ _ _ _ _ h hP hD hS (lv_sub hl [1, 2, 3, 4, 6, 7] rfl)
set_option maxHeartbeats 4000000 in
set_option maxRecDepth 100000 in
theorem bM_agree_14 {p : Program} {l : Launch} {e : Env} {s : State} {m : MethodId} {below : List Frame} {meth : Method} {c : Code} {A : Nat → Prop} {D : va_G} {K : Nat → ClassId} {h0 : Nat} {a0 : Nat → Nat} {AR : Array Value} (C : (dc_C p s m AR meth c cM_agree 9 (Option.some Jvm.ClassFile.FieldType.boolean) yM_agree ∧ cf_E D K A s s.heap ∧ ∀ q, s.heap.size ≤ q → A q)) {n : Nat} (ih : IhM_agree p l e s m below meth c A D K h0 a0 AR n) (v1 : Int32) (v2 : Int32) (v3 : Int32) (v4 : Int32) (v5 : Int32) (v6 : Int32) (o0 : cf_O) (r : Int32) (h : fM_agree_14 (gM_agree n) v1 v2 v3 v4 v5 v6 o0 = some r) {H : Heap} {locs : List Loc} {ls : Array Slot} (hP : va_P D vwCl (wM K h0 a0 o0) H) (hD : va_D A (wM K h0 a0 o0)) (hS : va_S A s.heap H locs) (hl : lv_has ls 9 [(0, .ref h0), (1, .int v1), (2, .int v2), (3, .int v3), (4, .int v4), (5, .int v5), (6, .int v6)]) : W p l e ({ frames := 0, cells := 0, slots := 0, locals := 0 }) s m AR below meth c H locs 0 0 (MQ below (va_Qi (fun (x : Int32) (_ : Unit) => x = r) (fun (_ : Unit) t => cf_At D A (wM K h0 a0 o0) t) A) AR s 0 0 A) (F0 m 14 ls []) := by
  obtain ⟨⟨hx, hb, hr, hts, hown, hlocks, hin, hml⟩, hE, hA⟩ := id C
  have hK := hE.k
  refine lv_iload hx hb dM_agree_14 (lv_at hl 6 rfl) ?_
  refine lv_iconst (v := 4) hx hb dM_agree_16 (by decide) ?_
  refine lv_icmp_ge (tgt := 121) hx hb dM_agree_17 (by decide) (fun c_1 => ?_) (fun c_1 => ?_)
  · have h := op_t c_1 h
    refine lv_iload hx hb dM_agree_121 (lv_at hl 4 rfl) ?_
    obtain ⟨hz_2, h⟩ := op_w h
    obtain rfl := Option.some.inj h
    exact dc_zret hx hb hr (op_z hz_2) hlocks rfl hP hD hS dM_agree_123
  · have h := op_f c_1 h
    refine lv_iload hx hb dM_agree_20 (lv_at hl 5 rfl) ?_
    refine lv_bipush (v := 64) hx hb dM_agree_22 (by decide) ?_
    refine lv_iload hx hb dM_agree_24 (lv_at hl 6 rfl) ?_
    refine lv_iconst (v := 1) hx hb dM_agree_26 (by decide) ?_
    refine lv_iadd hx hb dM_agree_27 ?_
    refine lv_topi (fun x_3 ex_3 => ?_)
    have h := op_ks ex_3 h
    refine lv_imul hx hb dM_agree_28 ?_
    refine lv_topi (fun x_4 ex_4 => ?_)
    have h := op_ks ex_4 h
    refine lv_icmp_lt (tgt := 38) hx hb dM_agree_29 (by decide) (fun c_5 => ?_) (fun c_5 => ?_)
    · have h := op_t c_5 h
      refine lv_iload hx hb dM_agree_38 (lv_at hl 5 rfl) ?_
      refine lv_bipush (v := 64) hx hb dM_agree_40 (by decide) ?_
      refine lv_iload hx hb dM_agree_42 (lv_at hl 6 rfl) ?_
      refine lv_imul hx hb dM_agree_44 ?_
      refine lv_topi (fun x_6 ex_6 => ?_)
      have h := op_ks ex_6 h
      refine lv_icmp_le (tgt := 63) hx hb dM_agree_45 (by decide) (fun c_7 => ?_) (fun c_7 => ?_)
      · have h := op_t c_7 h
        refine lv_lconst (v := 0) hx hb dM_agree_63 (by decide) ?_
        exact bM_agree_64 C ih _ _ _ _ _ _ _ _ _ h hP hD hS (lv_sub hl [0, 1, 2, 3, 4, 5, 6] rfl)
      · have h := op_f c_7 h
        refine lv_lconst (v := 1) hx hb dM_agree_48 (by decide) ?_
        refine lv_iload hx hb dM_agree_49 (lv_at hl 5 rfl) ?_
        refine lv_bipush (v := 64) hx hb dM_agree_51 (by decide) ?_
        refine lv_iload hx hb dM_agree_53 (lv_at hl 6 rfl) ?_
        refine lv_imul hx hb dM_agree_55 ?_
        refine lv_topi (fun x_8 ex_8 => ?_)
        have h := op_ks ex_8 h
        refine lv_isub hx hb dM_agree_56 ?_
        refine lv_topi (fun x_9 ex_9 => ?_)
        have h := op_ks ex_9 h
        refine lv_lshl hx hb dM_agree_57 rfl ?_
        refine lv_topl (fun x_10 ex_10 => ?_)
        have h := op_ks ex_10 h
        refine lv_lconst (v := 1) hx hb dM_agree_58 (by decide) ?_
        refine lv_lsub hx hb dM_agree_59 ?_
        refine lv_topl (fun x_11 ex_11 => ?_)
        have h := op_ks ex_11 h
        refine lv_goto (tgt := 64) hx hb dM_agree_60 (by decide) ?_
        exact bM_agree_64 C ih _ _ _ _ _ _ _ _ _ h hP hD hS (lv_sub hl [0, 1, 2, 3, 4, 5, 6] rfl)
    · have h := op_f c_5 h
      refine lv_ldc2 (v := (-1)) hx hb hown (hts _ wv_2469) dM_agree_32 ?_
      refine lv_goto (tgt := 64) hx hb dM_agree_35 (by decide) ?_
      exact bM_agree_64 C ih _ _ _ _ _ _ _ _ _ h hP hD hS (lv_sub hl [0, 1, 2, 3, 4, 5, 6] rfl)
set_option maxHeartbeats 4000000 in
set_option maxRecDepth 100000 in
theorem bM_agree_0 {p : Program} {l : Launch} {e : Env} {s : State} {m : MethodId} {below : List Frame} {meth : Method} {c : Code} {A : Nat → Prop} {D : va_G} {K : Nat → ClassId} {h0 : Nat} {a0 : Nat → Nat} {AR : Array Value} (C : (dc_C p s m AR meth c cM_agree 9 (Option.some Jvm.ClassFile.FieldType.boolean) yM_agree ∧ cf_E D K A s s.heap ∧ ∀ q, s.heap.size ≤ q → A q)) {n : Nat} (ih : IhM_agree p l e s m below meth c A D K h0 a0 AR n) (v1 : Int32) (v2 : Int32) (v3 : Int32) (o0 : cf_O) (r : Int32) (h : fM_agree_0 (gM_agree n) v1 v2 v3 o0 = some r) {H : Heap} {locs : List Loc} {ls : Array Slot} (hP : va_P D vwCl (wM K h0 a0 o0) H) (hD : va_D A (wM K h0 a0 o0)) (hS : va_S A s.heap H locs) (hl : lv_has ls 9 [(0, .ref h0), (1, .int v1), (2, .int v2), (3, .int v3)]) : W p l e ({ frames := 0, cells := 0, slots := 0, locals := 0 }) s m AR below meth c H locs 0 0 (MQ below (va_Qi (fun (x : Int32) (_ : Unit) => x = r) (fun (_ : Unit) t => cf_At D A (wM K h0 a0 o0) t) A) AR s 0 0 A) (F0 m 0 ls []) := by
  obtain ⟨⟨hx, hb, hr, hts, hown, hlocks, hin, hml⟩, hE, hA⟩ := id C
  have hK := hE.k
  refine lv_iconst (v := 1) hx hb dM_agree_0 (by decide) ?_
  refine lv_istore (lv' := [(4, .int 1), (0, .ref h0), (1, .int v1), (2, .int v2), (3, .int v3)]) hx hb dM_agree_1 hl (by decide) rfl (fun ls hl => ?_)
  refine lv_iconst (v := 1) hx hb dM_agree_3 (by decide) ?_
  refine lv_aload_n hx hb dM_agree_4 rfl (lv_at hl 1 rfl) ?_
  refine va_get (D := D) (ci := 12) (v := .int (o0.1 39)) (C := RM) (T := TM) (N := 99) hx hb hts inM hown hK hP 0 rfl rfl 39 (by decide) (hts _ wv_2021) (fun _ h9 => h9) rfl dM_agree_5 ?_
  refine lv_ishl hx hb dM_agree_8 ?_
  refine lv_topi (fun x_1 ex_1 => ?_)
  have h := op_ks ex_1 h
  refine lv_istore (lv' := [(5, .int x_1), (4, .int 1), (0, .ref h0), (1, .int v1), (2, .int v2), (3, .int v3)]) hx hb dM_agree_9 hl (by decide) rfl (fun ls hl => ?_)
  refine lv_iconst (v := 0) hx hb dM_agree_11 (by decide) ?_
  refine lv_istore (lv' := [(6, .int 0), (5, .int x_1), (4, .int 1), (0, .ref h0), (1, .int v1), (2, .int v2), (3, .int v3)]) hx hb dM_agree_12 hl (by decide) rfl (fun ls hl => ?_)
  exact (ih) _ _ _ _ _ _ _ _ h hP hD hS (lv_sub hl [3, 4, 5, 6, 2, 1, 0] rfl)
theorem iM_agree {p : Program} {l : Launch} {e : Env} {s : State} {m : MethodId} {below : List Frame} {meth : Method} {c : Code} {A : Nat → Prop} {D : va_G} {K : Nat → ClassId} {h0 : Nat} {a0 : Nat → Nat} {AR : Array Value} (C : (dc_C p s m AR meth c cM_agree 9 (Option.some Jvm.ClassFile.FieldType.boolean) yM_agree ∧ cf_E D K A s s.heap ∧ ∀ q, s.heap.size ≤ q → A q)) : ∀ n, IhM_agree p l e s m below meth c A D K h0 a0 AR n := by
  intro n
  induction n with
  | zero => exact (fun _ _ _ _ _ _ _ r h => by cases (show none = some r from h))
  | succ n ih => exact fun x0 x1 x2 x3 x4 x5 x6 r h _ _ _ hP hD hS hl => bM_agree_14 C ih x0 x1 x2 x3 x4 x5 x6 r h hP hD hS hl
set_option maxRecDepth 100000 in
theorem mM_agree (l : Launch) (D : va_G) (K : Nat → ClassId) (sz : Nat) (v1 : Int32) (v2 : Int32) (v3 : Int32) (h0 : Nat) (a0 : Nat → Nat) (o0 : cf_O) (r : Int32) (h : fM_agree v1 v2 v3 o0 = some r) : Met l yM_agree (Cond.code yM_agree cM_agree 9 (Option.some Jvm.ClassFile.FieldType.boolean) :: cfB) ({ frames := 0, cells := 0, slots := 0, locals := 0 }) (va_Pc [.ref h0, .int v1, .int v2, .int v3] (cf_Pre D K sz (wM K h0 a0 o0))) (va_Qi (fun (x : Int32) (_ : Unit) => x = r) (fun (_ : Unit) t => cf_At D (va_A (wM K h0 a0 o0) sz) (wM K h0 a0 o0) t) (va_A (wM K h0 a0 o0) sz)) 0 0 (va_A (wM K h0 a0 o0) sz) := by
  refine cf_ofW (y := yM_agree) (As := [.ref h0, .int v1, .int v2, .int v3]) (WS := wM K h0 a0 o0) (maxL := 9) (fun A => (va_Qi (fun (x : Int32) (_ : Unit) => x = r) (fun (_ : Unit) t => cf_At D A (wM K h0 a0 o0) t) A)) (by decide) (Nat.le_of_ble_eq_true rfl) ?_
  intro p e s m below meth c A ls En hsz hA hP hD hE hS hl
  have C : (dc_C p s m (([.ref h0, .int v1, .int v2, .int v3] : List Value).toArray) meth c cM_agree 9 (Option.some Jvm.ClassFile.FieldType.boolean) yM_agree ∧ cf_E D K A s s.heap ∧ ∀ q, s.heap.size ≤ q → A q) := ⟨En, hE, hA⟩
  exact bM_agree_0 C (iM_agree C cfFU) v1 v2 v3 o0 r h hP hD hS hl
def IhM_reduce (p : Program) (l : Launch) (e : Env) (s : State) (m : MethodId) (below : List Frame) (meth : Method) (c : Code) (A : Nat → Prop) (D : va_G) (K : Nat → ClassId) (h0 : Nat) (a0 : Nat → Nat) (AR : Array Value) (n : Nat) : Prop := (∀ (v1 : Int32) (o0 : cf_O) (r : Int32 × cf_O), gM_reduce n 0 v1 0 0 0 o0 = some r → ∀ {H : Heap} {locs : List Loc} {ls : Array Slot}, (va_P D vwCl (wM K h0 a0 o0) H) → (va_D A (wM K h0 a0 o0)) → va_S A s.heap H locs → lv_has ls 6 [(0, .ref h0), (1, .int v1)] → W p l e ({ frames := 3, cells := 0, slots := 0, locals := 69 }) s m AR below meth c H locs 0 0 (MQ below (va_Qi (fun (x : Int32) (_ : Unit) => x = r.1) (fun (_ : Unit) t => cf_At D A (wM K h0 a0 r.2) t) A) AR s 0 0 A) (F0 m 45 ls [])) ∧ (∀ (v1 : Int32) (v2 : Int32) (v3 : Int32) (v4 : Int32) (o0 : cf_O) (r : Int32 × cf_O), gM_reduce n 1 v1 v2 v3 v4 o0 = some r → ∀ {H : Heap} {locs : List Loc} {ls : Array Slot}, (va_P D vwCl (wM K h0 a0 o0) H) → (va_D A (wM K h0 a0 o0)) → va_S A s.heap H locs → lv_has ls 6 [(0, .ref h0), (1, .int v1), (2, .int v2), (3, .int v3), (4, .int v4)] → W p l e ({ frames := 3, cells := 0, slots := 0, locals := 69 }) s m AR below meth c H locs 0 0 (MQ below (va_Qi (fun (x : Int32) (_ : Unit) => x = r.1) (fun (_ : Unit) t => cf_At D A (wM K h0 a0 r.2) t) A) AR s 0 0 A) (F0 m 67 ls []))
set_option maxHeartbeats 4000000 in
set_option maxRecDepth 100000 in
theorem bM_reduce_245 {p : Program} {l : Launch} {e : Env} {s : State} {m : MethodId} {below : List Frame} {meth : Method} {c : Code} {A : Nat → Prop} {D : va_G} {K : Nat → ClassId} {h0 : Nat} {a0 : Nat → Nat} {AR : Array Value} (C : (dc_C p s m AR meth c cM_reduce 6 (Option.some Jvm.ClassFile.FieldType.int) yM_reduce ∧ cf_E D K A s s.heap ∧ ∀ q, s.heap.size ≤ q → A q)) {n : Nat} (ih : IhM_reduce p l e s m below meth c A D K h0 a0 AR n) (v1 : Int32) (o0 : cf_O) (r : Int32 × cf_O) (h : fM_reduce_245 (gM_reduce n) v1 o0 = some r) {H : Heap} {locs : List Loc} {ls : Array Slot} (hP : va_P D vwCl (wM K h0 a0 o0) H) (hD : va_D A (wM K h0 a0 o0)) (hS : va_S A s.heap H locs) (hl : lv_has ls 6 [(0, .ref h0), (1, .int v1)]) : W p l e ({ frames := 3, cells := 0, slots := 0, locals := 69 }) s m AR below meth c H locs 0 0 (MQ below (va_Qi (fun (x : Int32) (_ : Unit) => x = r.1) (fun (_ : Unit) t => cf_At D A (wM K h0 a0 r.2) t) A) AR s 0 0 A) (F0 m 245 ls []) := by
  obtain ⟨⟨hx, hb, hr, hts, hown, hlocks, hin, hml⟩, hE, hA⟩ := id C
  have hK := hE.k
  obtain ⟨x_1, ex_1⟩ : ∃ y : Int32, y = v1 + 1 := ⟨_, rfl⟩
  refine lv_iinc (v := x_1) (lv' := [(1, .int x_1), (0, .ref h0)]) hx hb dM_reduce_245 hl (k := 1) rfl (by rw [ex_1]; rfl) (by decide) rfl (fun ls hl => ?_)
  have h := op_ks ex_1 h
  refine lv_goto (tgt := 45) hx hb dM_reduce_248 (by decide) ?_
  exact (ih.1) _ _ _ h hP hD hS (lv_sub hl [1, 0] rfl)
set_option maxHeartbeats 4000000 in
set_option maxRecDepth 100000 in
theorem bM_reduce_177 {p : Program} {l : Launch} {e : Env} {s : State} {m : MethodId} {below : List Frame} {meth : Method} {c : Code} {A : Nat → Prop} {D : va_G} {K : Nat → ClassId} {h0 : Nat} {a0 : Nat → Nat} {AR : Array Value} (C : (dc_C p s m AR meth c cM_reduce 6 (Option.some Jvm.ClassFile.FieldType.int) yM_reduce ∧ cf_E D K A s s.heap ∧ ∀ q, s.heap.size ≤ q → A q)) {n : Nat} (ih : IhM_reduce p l e s m below meth c A D K h0 a0 AR n) (v1 : Int32) (s1 : Int32) (s2 : Int32) (s3 : Int32) (o0 : cf_O) (r : Int32 × cf_O) (h : fM_reduce_177 (gM_reduce n) v1 s1 s2 s3 o0 = some r) {H : Heap} {locs : List Loc} {ls : Array Slot} (hP : va_P D vwCl (wM K h0 a0 o0) H) (hD : va_D A (wM K h0 a0 o0)) (hS : va_S A s.heap H locs) (hl : lv_has ls 6 [(0, .ref h0), (1, .int v1)]) : W p l e ({ frames := 3, cells := 0, slots := 0, locals := 69 }) s m AR below meth c H locs 0 0 (MQ below (va_Qi (fun (x : Int32) (_ : Unit) => x = r.1) (fun (_ : Unit) t => cf_At D A (wM K h0 a0 r.2) t) A) AR s 0 0 A) (F0 m 177 ls [.int s3, .int s2, .int s1, .ref (a0 51)]) := by
  obtain ⟨⟨hx, hb, hr, hts, hown, hlocks, hin, hml⟩, hE, hA⟩ := id C
  have hK := hE.k
  refine lv_ixor hx hb dM_reduce_177 ?_
  refine lv_topi (fun x_1 ex_1 => ?_)
  have h := op_ks ex_1 h
  obtain ⟨hi_2, h⟩ := op_n h
  refine va_iast (D := D) hx hb hK hP hD hS 34 0 rfl rfl hi_2 dM_reduce_178 (fun H locs hP hD hS => ?_)
  have hP : va_P D vwCl (wM K h0 a0 (xp o0 51 s1.toNatClampNeg x_1)) H := hP
  have hD : va_D A (wM K h0 a0 (xp o0 51 s1.toNatClampNeg x_1)) := hD
  obtain ⟨o_3, eo_3, h⟩ := op_kx h
  rw [← eo_3] at hP hD
  refine lv_goto (tgt := 245) hx hb dM_reduce_179 (by decide) ?_
  exact bM_reduce_245 C ih _ _ _ h hP hD hS (lv_sub hl [0, 1] rfl)
set_option maxHeartbeats 4000000 in
set_option maxRecDepth 100000 in
theorem bM_reduce_147 {p : Program} {l : Launch} {e : Env} {s : State} {m : MethodId} {below : List Frame} {meth : Method} {c : Code} {A : Nat → Prop} {D : va_G} {K : Nat → ClassId} {h0 : Nat} {a0 : Nat → Nat} {AR : Array Value} (C : (dc_C p s m AR meth c cM_reduce 6 (Option.some Jvm.ClassFile.FieldType.int) yM_reduce ∧ cf_E D K A s s.heap ∧ ∀ q, s.heap.size ≤ q → A q)) {n : Nat} (ih : IhM_reduce p l e s m below meth c A D K h0 a0 AR n) (v1 : Int32) (v2 : Int32) (v3 : Int32) (o0 : cf_O) (r : Int32 × cf_O) (h : fM_reduce_147 (gM_reduce n) v1 v2 v3 o0 = some r) {H : Heap} {locs : List Loc} {ls : Array Slot} (hP : va_P D vwCl (wM K h0 a0 o0) H) (hD : va_D A (wM K h0 a0 o0)) (hS : va_S A s.heap H locs) (hl : lv_has ls 6 [(0, .ref h0), (1, .int v1), (2, .int v2), (3, .int v3)]) : W p l e ({ frames := 3, cells := 0, slots := 0, locals := 69 }) s m AR below meth c H locs 0 0 (MQ below (va_Qi (fun (x : Int32) (_ : Unit) => x = r.1) (fun (_ : Unit) t => cf_At D A (wM K h0 a0 r.2) t) A) AR s 0 0 A) (F0 m 147 ls []) := by
  obtain ⟨⟨hx, hb, hr, hts, hown, hlocks, hin, hml⟩, hE, hA⟩ := id C
  have hK := hE.k
  refine lv_iload_n hx hb dM_reduce_147 rfl (lv_at hl 3 rfl) ?_
  refine lv_if_lt (tgt := 182) hx hb dM_reduce_148 (by decide) (fun c_1 => ?_) (fun c_1 => ?_)
  · have h := op_t c_1 h
    refine lv_aload_n hx hb dM_reduce_182 rfl (lv_at hl 0 rfl) ?_
    refine va_get (D := D) (ci := 12) (v := .ref (a0 49)) (C := RM) (T := TM) (N := 99) hx hb hts inM hown hK hP 0 rfl rfl 49 (by decide) (hts _ wv_2031) (fun _ h9 => h9) rfl dM_reduce_183 ?_
    refine lv_iload_n hx hb dM_reduce_186 rfl (lv_at hl 2 rfl) ?_
    obtain ⟨hi_2, h⟩ := op_n h
    refine va_zald (D := D) hx hb hK hP 32 3 rfl rfl hi_2 dM_reduce_187 ?_
    refine lv_topi (fun x_3 ex_3 => ?_)
    have h := op_ks ex_3 h
    refine lv_if_eq (tgt := 245) hx hb dM_reduce_188 (by decide) (fun c_4 => ?_) (fun c_4 => ?_)
    · have h := op_t c_4 h
      exact bM_reduce_245 C ih _ _ _ h hP hD hS (lv_sub hl [0, 1] rfl)
    · have h := op_f c_4 h
      refine lv_aload_n hx hb dM_reduce_191 rfl (lv_at hl 0 rfl) ?_
      refine va_get (D := D) (ci := 12) (v := .ref (a0 51)) (C := RM) (T := TM) (N := 99) hx hb hts inM hown hK hP 0 rfl rfl 51 (by decide) (hts _ wv_2033) (fun _ h9 => h9) rfl dM_reduce_192 ?_
      refine lv_iload_n hx hb dM_reduce_195 rfl (lv_at hl 2 rfl) ?_
      refine lv_aload_n hx hb dM_reduce_196 rfl (lv_at hl 0 rfl) ?_
      refine lv_aload_n hx hb dM_reduce_197 rfl (lv_at hl 0 rfl) ?_
      refine va_get (D := D) (ci := 12) (v := .ref (a0 51)) (C := RM) (T := TM) (N := 99) hx hb hts inM hown hK hP 0 rfl rfl 51 (by decide) (hts _ wv_2033) (fun _ h9 => h9) rfl dM_reduce_198 ?_
      refine lv_aload_n hx hb dM_reduce_201 rfl (lv_at hl 0 rfl) ?_
      refine va_get (D := D) (ci := 12) (v := .ref (a0 44)) (C := RM) (T := TM) (N := 99) hx hb hts inM hown hK hP 0 rfl rfl 44 (by decide) (hts _ wv_2026) (fun _ h9 => h9) rfl dM_reduce_202 ?_
      refine lv_iload_n hx hb dM_reduce_205 rfl (lv_at hl 1 rfl) ?_
      obtain ⟨hi_5, h⟩ := op_n h
      refine va_iald (D := D) hx hb hK hP 27 0 rfl rfl hi_5 dM_reduce_206 ?_
      refine lv_topi (fun x_6 ex_6 => ?_)
      have h := op_ks ex_6 h
      refine lv_iconst (v := 2) hx hb dM_reduce_207 (by decide) ?_
      refine lv_idiv hx hb dM_reduce_208 (by decide) ?_
      refine lv_topi (fun x_7 ex_7 => ?_)
      have h := op_ks ex_7 h
      obtain ⟨hi_8, h⟩ := op_n h
      refine va_iald (D := D) hx hb hK hP 34 0 rfl rfl hi_8 dM_reduce_209 ?_
      refine lv_topi (fun x_9 ex_9 => ?_)
      have h := op_ks ex_9 h
      refine lv_aload_n hx hb dM_reduce_210 rfl (lv_at hl 0 rfl) ?_
      refine va_get (D := D) (ci := 12) (v := .ref (a0 44)) (C := RM) (T := TM) (N := 99) hx hb hts inM hown hK hP 0 rfl rfl 44 (by decide) (hts _ wv_2026) (fun _ h9 => h9) rfl dM_reduce_211 ?_
      refine lv_iload_n hx hb dM_reduce_214 rfl (lv_at hl 1 rfl) ?_
      obtain ⟨hi_10, h⟩ := op_n h
      refine va_iald (D := D) hx hb hK hP 27 0 rfl rfl hi_10 dM_reduce_215 ?_
      refine lv_topi (fun x_11 ex_11 => ?_)
      have h := op_ks ex_11 h
      refine lv_iconst (v := 1) hx hb dM_reduce_216 (by decide) ?_
      refine lv_iand hx hb dM_reduce_217 ?_
      refine lv_topi (fun x_12 ex_12 => ?_)
      have h := op_ks ex_12 h
      refine lv_ixor hx hb dM_reduce_218 ?_
      refine lv_topi (fun x_13 ex_13 => ?_)
      have h := op_ks ex_13 h
      refine lv_aload_n hx hb dM_reduce_219 rfl (lv_at hl 0 rfl) ?_
      refine va_get (D := D) (ci := 12) (v := .ref (a0 51)) (C := RM) (T := TM) (N := 99) hx hb hts inM hown hK hP 0 rfl rfl 51 (by decide) (hts _ wv_2033) (fun _ h9 => h9) rfl dM_reduce_220 ?_
      refine lv_aload_n hx hb dM_reduce_223 rfl (lv_at hl 0 rfl) ?_
      refine va_get (D := D) (ci := 12) (v := .ref (a0 45)) (C := RM) (T := TM) (N := 99) hx hb hts inM hown hK hP 0 rfl rfl 45 (by decide) (hts _ wv_2027) (fun _ h9 => h9) rfl dM_reduce_224 ?_
      refine lv_iload_n hx hb dM_reduce_227 rfl (lv_at hl 1 rfl) ?_
      obtain ⟨hi_14, h⟩ := op_n h
      refine va_iald (D := D) hx hb hK hP 28 0 rfl rfl hi_14 dM_reduce_228 ?_
      refine lv_topi (fun x_15 ex_15 => ?_)
      have h := op_ks ex_15 h
      refine lv_iconst (v := 2) hx hb dM_reduce_229 (by decide) ?_
      refine lv_idiv hx hb dM_reduce_230 (by decide) ?_
      refine lv_topi (fun x_16 ex_16 => ?_)
      have h := op_ks ex_16 h
      obtain ⟨hi_17, h⟩ := op_n h
      refine va_iald (D := D) hx hb hK hP 34 0 rfl rfl hi_17 dM_reduce_231 ?_
      refine lv_topi (fun x_18 ex_18 => ?_)
      have h := op_ks ex_18 h
      refine lv_aload_n hx hb dM_reduce_232 rfl (lv_at hl 0 rfl) ?_
      refine va_get (D := D) (ci := 12) (v := .ref (a0 45)) (C := RM) (T := TM) (N := 99) hx hb hts inM hown hK hP 0 rfl rfl 45 (by decide) (hts _ wv_2027) (fun _ h9 => h9) rfl dM_reduce_233 ?_
      refine lv_iload_n hx hb dM_reduce_236 rfl (lv_at hl 1 rfl) ?_
      obtain ⟨hi_19, h⟩ := op_n h
      refine va_iald (D := D) hx hb hK hP 28 0 rfl rfl hi_19 dM_reduce_237 ?_
      refine lv_topi (fun x_20 ex_20 => ?_)
      have h := op_ks ex_20 h
      refine lv_iconst (v := 1) hx hb dM_reduce_238 (by decide) ?_
      refine lv_iand hx hb dM_reduce_239 ?_
      refine lv_topi (fun x_21 ex_21 => ?_)
      have h := op_ks ex_21 h
      refine lv_ixor hx hb dM_reduce_240 ?_
      refine lv_topi (fun x_22 ex_22 => ?_)
      have h := op_ks ex_22 h
      obtain ⟨q_23, hq_23, h⟩ := op_b h
      refine dc_calli (va_runV (As := [.int x_13, .int x_22]) (rest := [.int v2, .ref (a0 51)]) ⟨hx, hb, hml, hown, hts⟩ (mM_and l D K _ x_13 x_22 h0 a0 o0 _ hq_23) (cwV 2 hts (cf_GV wv_2384 wv_2386 wv_84 wv_173 wv_2387) rfl rfl rfl (by decide +kernel) ⟨Nat.le_of_ble_eq_true rfl, Nat.le_of_ble_eq_true rfl⟩) (dc_preV hE hP hD hS hA rfl 0 rfl) rfl rfl hl.1 rfl (lv_room (Nat.le_of_ble_eq_true rfl)) dM_reduce_241 ⟨Nat.le_of_ble_eq_true rfl, Nat.le_of_ble_eq_true rfl⟩) hP hD hS hA (fun r_24 H locs hw_25 hP hD hS => ?_)
      subst r_24
      obtain ⟨hi_26, h⟩ := op_n h
      refine va_iast (D := D) hx hb hK hP hD hS 34 0 rfl rfl hi_26 dM_reduce_244 (fun H locs hP hD hS => ?_)
      have hP : va_P D vwCl (wM K h0 a0 (xp q_23.2 51 v2.toNatClampNeg q_23.1)) H := hP
      have hD : va_D A (wM K h0 a0 (xp q_23.2 51 v2.toNatClampNeg q_23.1)) := hD
      obtain ⟨o_27, eo_27, h⟩ := op_kx h
      rw [← eo_27] at hP hD
      exact bM_reduce_245 C ih _ _ _ h hP hD hS (lv_sub hl [0, 1] rfl)
  · have h := op_f c_1 h
    refine lv_aload_n hx hb dM_reduce_151 rfl (lv_at hl 0 rfl) ?_
    refine va_get (D := D) (ci := 12) (v := .ref (a0 51)) (C := RM) (T := TM) (N := 99) hx hb hts inM hown hK hP 0 rfl rfl 51 (by decide) (hts _ wv_2033) (fun _ h9 => h9) rfl dM_reduce_152 ?_
    refine lv_iload_n hx hb dM_reduce_155 rfl (lv_at hl 2 rfl) ?_
    refine lv_aload_n hx hb dM_reduce_156 rfl (lv_at hl 0 rfl) ?_
    refine va_get (D := D) (ci := 12) (v := .ref (a0 51)) (C := RM) (T := TM) (N := 99) hx hb hts inM hown hK hP 0 rfl rfl 51 (by decide) (hts _ wv_2033) (fun _ h9 => h9) rfl dM_reduce_157 ?_
    refine lv_iload_n hx hb dM_reduce_160 rfl (lv_at hl 3 rfl) ?_
    obtain ⟨hi_28, h⟩ := op_n h
    refine va_iald (D := D) hx hb hK hP 34 0 rfl rfl hi_28 dM_reduce_161 ?_
    refine lv_topi (fun x_29 ex_29 => ?_)
    have h := op_ks ex_29 h
    refine lv_aload_n hx hb dM_reduce_162 rfl (lv_at hl 0 rfl) ?_
    refine lv_iload_n hx hb dM_reduce_163 rfl (lv_at hl 3 rfl) ?_
    refine lv_iload_n hx hb dM_reduce_164 rfl (lv_at hl 2 rfl) ?_
    refine lv_iconst (v := 1) hx hb dM_reduce_165 (by decide) ?_
    obtain ⟨q_30, hq_30, h⟩ := op_b h
    refine dc_calli (va_runV (As := [.int v3, .int v2, .int 1]) (rest := [.int x_29, .int v2, .ref (a0 51)]) ⟨hx, hb, hml, hown, hts⟩ (mM_agree l D K _ v3 v2 1 h0 a0 o0 _ hq_30) (cwV 3 hts (cf_GV wv_2465 wv_2467 wv_97 wv_173 wv_2468) rfl rfl rfl (by decide +kernel) ⟨Nat.le_of_ble_eq_true rfl, Nat.le_of_ble_eq_true rfl⟩) (dc_preV hE hP hD hS hA rfl 0 rfl) rfl rfl hl.1 rfl (lv_room (Nat.le_of_ble_eq_true rfl)) dM_reduce_166 ⟨Nat.le_of_ble_eq_true rfl, Nat.le_of_ble_eq_true rfl⟩) hP hD hS hA (fun r_31 H locs hw_32 hP hD hS => ?_)
    subst r_31
    refine lv_if_eq (tgt := 176) hx hb dM_reduce_169 (by decide) (fun c_33 => ?_) (fun c_33 => ?_)
    · have h := op_t c_33 h
      refine lv_iconst (v := 0) hx hb dM_reduce_176 (by decide) ?_
      exact bM_reduce_177 C ih _ _ _ _ _ _ h hP hD hS (lv_sub hl [0, 1] rfl)
    · have h := op_f c_33 h
      refine lv_iconst (v := 1) hx hb dM_reduce_172 (by decide) ?_
      refine lv_goto (tgt := 177) hx hb dM_reduce_173 (by decide) ?_
      exact bM_reduce_177 C ih _ _ _ _ _ _ h hP hD hS (lv_sub hl [0, 1] rfl)
set_option maxHeartbeats 4000000 in
set_option maxRecDepth 100000 in
theorem bM_reduce_140 {p : Program} {l : Launch} {e : Env} {s : State} {m : MethodId} {below : List Frame} {meth : Method} {c : Code} {A : Nat → Prop} {D : va_G} {K : Nat → ClassId} {h0 : Nat} {a0 : Nat → Nat} {AR : Array Value} (C : (dc_C p s m AR meth c cM_reduce 6 (Option.some Jvm.ClassFile.FieldType.int) yM_reduce ∧ cf_E D K A s s.heap ∧ ∀ q, s.heap.size ≤ q → A q)) {n : Nat} (ih : IhM_reduce p l e s m below meth c A D K h0 a0 AR n) (v1 : Int32) (v2 : Int32) (v4 : Int32) (s0 : Int32) (o0 : cf_O) (r : Int32 × cf_O) (h : fM_reduce_140 (gM_reduce n) v1 v2 v4 s0 o0 = some r) {H : Heap} {locs : List Loc} {ls : Array Slot} (hP : va_P D vwCl (wM K h0 a0 o0) H) (hD : va_D A (wM K h0 a0 o0)) (hS : va_S A s.heap H locs) (hl : lv_has ls 6 [(0, .ref h0), (1, .int v1), (2, .int v2), (4, .int v4)]) : W p l e ({ frames := 3, cells := 0, slots := 0, locals := 69 }) s m AR below meth c H locs 0 0 (MQ below (va_Qi (fun (x : Int32) (_ : Unit) => x = r.1) (fun (_ : Unit) t => cf_At D A (wM K h0 a0 r.2) t) A) AR s 0 0 A) (F0 m 140 ls [.int s0]) := by
  obtain ⟨⟨hx, hb, hr, hts, hown, hlocks, hin, hml⟩, hE, hA⟩ := id C
  have hK := hE.k
  refine lv_istore_n (lv' := [(3, .int s0), (0, .ref h0), (1, .int v1), (2, .int v2), (4, .int v4)]) hx hb dM_reduce_140 rfl hl (by decide) rfl (fun ls hl => ?_)
  obtain ⟨x_1, ex_1⟩ : ∃ y : Int32, y = v4 + (-1) := ⟨_, rfl⟩
  refine lv_iinc (v := x_1) (lv' := [(4, .int x_1), (3, .int s0), (0, .ref h0), (1, .int v1), (2, .int v2)]) hx hb dM_reduce_141 hl (k := 4) rfl (by rw [ex_1]; rfl) (by decide) rfl (fun ls hl => ?_)
  have h := op_ks ex_1 h
  refine lv_goto (tgt := 67) hx hb dM_reduce_144 (by decide) ?_
  exact (ih.2) _ _ _ _ _ _ h hP hD hS (lv_sub hl [2, 3, 4, 1, 0] rfl)
set_option maxHeartbeats 4000000 in
set_option maxRecDepth 100000 in
theorem bM_reduce_139 {p : Program} {l : Launch} {e : Env} {s : State} {m : MethodId} {below : List Frame} {meth : Method} {c : Code} {A : Nat → Prop} {D : va_G} {K : Nat → ClassId} {h0 : Nat} {a0 : Nat → Nat} {AR : Array Value} (C : (dc_C p s m AR meth c cM_reduce 6 (Option.some Jvm.ClassFile.FieldType.int) yM_reduce ∧ cf_E D K A s s.heap ∧ ∀ q, s.heap.size ≤ q → A q)) {n : Nat} (ih : IhM_reduce p l e s m below meth c A D K h0 a0 AR n) (v1 : Int32) (v2 : Int32) (v3 : Int32) (v4 : Int32) (o0 : cf_O) (r : Int32 × cf_O) (h : fM_reduce_139 (gM_reduce n) v1 v2 v3 v4 o0 = some r) {H : Heap} {locs : List Loc} {ls : Array Slot} (hP : va_P D vwCl (wM K h0 a0 o0) H) (hD : va_D A (wM K h0 a0 o0)) (hS : va_S A s.heap H locs) (hl : lv_has ls 6 [(0, .ref h0), (1, .int v1), (2, .int v2), (3, .int v3), (4, .int v4)]) : W p l e ({ frames := 3, cells := 0, slots := 0, locals := 69 }) s m AR below meth c H locs 0 0 (MQ below (va_Qi (fun (x : Int32) (_ : Unit) => x = r.1) (fun (_ : Unit) t => cf_At D A (wM K h0 a0 r.2) t) A) AR s 0 0 A) (F0 m 139 ls []) := by
  obtain ⟨⟨hx, hb, hr, hts, hown, hlocks, hin, hml⟩, hE, hA⟩ := id C
  have hK := hE.k
  refine lv_iload_n hx hb dM_reduce_139 rfl (lv_at hl 3 rfl) ?_
  exact bM_reduce_140 C ih _ _ _ _ _ _ h hP hD hS (lv_sub hl [0, 1, 2, 4] rfl)
set_option maxHeartbeats 4000000 in
set_option maxRecDepth 100000 in
theorem bM_reduce_134 {p : Program} {l : Launch} {e : Env} {s : State} {m : MethodId} {below : List Frame} {meth : Method} {c : Code} {A : Nat → Prop} {D : va_G} {K : Nat → ClassId} {h0 : Nat} {a0 : Nat → Nat} {AR : Array Value} (C : (dc_C p s m AR meth c cM_reduce 6 (Option.some Jvm.ClassFile.FieldType.int) yM_reduce ∧ cf_E D K A s s.heap ∧ ∀ q, s.heap.size ≤ q → A q)) {n : Nat} (ih : IhM_reduce p l e s m below meth c A D K h0 a0 AR n) (v1 : Int32) (v2 : Int32) (v4 : Int32) (o0 : cf_O) (r : Int32 × cf_O) (h : fM_reduce_134 (gM_reduce n) v1 v2 v4 o0 = some r) {H : Heap} {locs : List Loc} {ls : Array Slot} (hP : va_P D vwCl (wM K h0 a0 o0) H) (hD : va_D A (wM K h0 a0 o0)) (hS : va_S A s.heap H locs) (hl : lv_has ls 6 [(0, .ref h0), (1, .int v1), (2, .int v2), (4, .int v4)]) : W p l e ({ frames := 3, cells := 0, slots := 0, locals := 69 }) s m AR below meth c H locs 0 0 (MQ below (va_Qi (fun (x : Int32) (_ : Unit) => x = r.1) (fun (_ : Unit) t => cf_At D A (wM K h0 a0 r.2) t) A) AR s 0 0 A) (F0 m 134 ls []) := by
  obtain ⟨⟨hx, hb, hr, hts, hown, hlocks, hin, hml⟩, hE, hA⟩ := id C
  have hK := hE.k
  refine lv_iload hx hb dM_reduce_134 (lv_at hl 3 rfl) ?_
  refine lv_goto (tgt := 140) hx hb dM_reduce_136 (by decide) ?_
  exact bM_reduce_140 C ih _ _ _ _ _ _ h hP hD hS (lv_sub hl [0, 1, 2, 3] rfl)
set_option maxHeartbeats 4000000 in
set_option maxRecDepth 100000 in
theorem bM_reduce_105 {p : Program} {l : Launch} {e : Env} {s : State} {m : MethodId} {below : List Frame} {meth : Method} {c : Code} {A : Nat → Prop} {D : va_G} {K : Nat → ClassId} {h0 : Nat} {a0 : Nat → Nat} {AR : Array Value} (C : (dc_C p s m AR meth c cM_reduce 6 (Option.some Jvm.ClassFile.FieldType.int) yM_reduce ∧ cf_E D K A s s.heap ∧ ∀ q, s.heap.size ≤ q → A q)) {n : Nat} (ih : IhM_reduce p l e s m below meth c A D K h0 a0 AR n) (v1 : Int32) (v2 : Int32) (v3 : Int32) (v4 : Int32) (s0 : Int32) (o0 : cf_O) (r : Int32 × cf_O) (h : fM_reduce_105 (gM_reduce n) v1 v2 v3 v4 s0 o0 = some r) {H : Heap} {locs : List Loc} {ls : Array Slot} (hP : va_P D vwCl (wM K h0 a0 o0) H) (hD : va_D A (wM K h0 a0 o0)) (hS : va_S A s.heap H locs) (hl : lv_has ls 6 [(0, .ref h0), (1, .int v1), (2, .int v2), (3, .int v3), (4, .int v4)]) : W p l e ({ frames := 3, cells := 0, slots := 0, locals := 69 }) s m AR below meth c H locs 0 0 (MQ below (va_Qi (fun (x : Int32) (_ : Unit) => x = r.1) (fun (_ : Unit) t => cf_At D A (wM K h0 a0 r.2) t) A) AR s 0 0 A) (F0 m 105 ls [.int s0]) := by
  obtain ⟨⟨hx, hb, hr, hts, hown, hlocks, hin, hml⟩, hE, hA⟩ := id C
  have hK := hE.k
  refine lv_istore (lv' := [(5, .int s0), (0, .ref h0), (1, .int v1), (2, .int v2), (3, .int v3), (4, .int v4)]) hx hb dM_reduce_105 hl (by decide) rfl (fun ls hl => ?_)
  refine lv_iload hx hb dM_reduce_107 (lv_at hl 0 rfl) ?_
  refine lv_if_eq (tgt := 139) hx hb dM_reduce_109 (by decide) (fun c_1 => ?_) (fun c_1 => ?_)
  · have h := op_t c_1 h
    exact bM_reduce_139 C ih _ _ _ _ _ _ h hP hD hS (lv_sub hl [1, 2, 3, 4, 5] rfl)
  · have h := op_f c_1 h
    refine lv_aload_n hx hb dM_reduce_112 rfl (lv_at hl 1 rfl) ?_
    refine lv_iload hx hb dM_reduce_113 (lv_at hl 5 rfl) ?_
    refine lv_iload_n hx hb dM_reduce_115 rfl (lv_at hl 3 rfl) ?_
    refine lv_iconst (v := 0) hx hb dM_reduce_116 (by decide) ?_
    obtain ⟨q_2, hq_2, h⟩ := op_b h
    refine dc_calli (va_runV (As := [.int v4, .int v2, .int 0]) (rest := []) ⟨hx, hb, hml, hown, hts⟩ (mM_agree l D K _ v4 v2 0 h0 a0 o0 _ hq_2) (cwV 3 hts (cf_GV wv_2465 wv_2467 wv_97 wv_173 wv_2468) rfl rfl rfl (by decide +kernel) ⟨Nat.le_of_ble_eq_true rfl, Nat.le_of_ble_eq_true rfl⟩) (dc_preV hE hP hD hS hA rfl 0 rfl) rfl rfl hl.1 rfl (lv_room (Nat.le_of_ble_eq_true rfl)) dM_reduce_117 ⟨Nat.le_of_ble_eq_true rfl, Nat.le_of_ble_eq_true rfl⟩) hP hD hS hA (fun r_3 H locs hw_4 hP hD hS => ?_)
    subst r_3
    refine lv_if_ne (tgt := 134) hx hb dM_reduce_120 (by decide) (fun c_5 => ?_) (fun c_5 => ?_)
    · have h := op_f c_5 h
      exact bM_reduce_134 C ih _ _ _ _ _ h hP hD hS (lv_sub hl [1, 2, 3, 5] rfl)
    · have h := op_t c_5 h
      refine lv_aload_n hx hb dM_reduce_123 rfl (lv_at hl 1 rfl) ?_
      refine lv_iload hx hb dM_reduce_124 (lv_at hl 5 rfl) ?_
      refine lv_iload_n hx hb dM_reduce_126 rfl (lv_at hl 3 rfl) ?_
      refine lv_iconst (v := 1) hx hb dM_reduce_127 (by decide) ?_
      obtain ⟨q_6, hq_6, h⟩ := op_b h
      refine dc_calli (va_runV (As := [.int v4, .int v2, .int 1]) (rest := []) ⟨hx, hb, hml, hown, hts⟩ (mM_agree l D K _ v4 v2 1 h0 a0 o0 _ hq_6) (cwV 3 hts (cf_GV wv_2465 wv_2467 wv_97 wv_173 wv_2468) rfl rfl rfl (by decide +kernel) ⟨Nat.le_of_ble_eq_true rfl, Nat.le_of_ble_eq_true rfl⟩) (dc_preV hE hP hD hS hA rfl 0 rfl) rfl rfl hl.1 rfl (lv_room (Nat.le_of_ble_eq_true rfl)) dM_reduce_128 ⟨Nat.le_of_ble_eq_true rfl, Nat.le_of_ble_eq_true rfl⟩) hP hD hS hA (fun r_7 H locs hw_8 hP hD hS => ?_)
      subst r_7
      refine lv_if_eq (tgt := 139) hx hb dM_reduce_131 (by decide) (fun c_9 => ?_) (fun c_9 => ?_)
      · have h := op_t c_9 h
        exact bM_reduce_139 C ih _ _ _ _ _ _ h hP hD hS (lv_sub hl [1, 2, 3, 4, 5] rfl)
      · have h := op_f c_9 h
        exact bM_reduce_134 C ih _ _ _ _ _ h hP hD hS (lv_sub hl [1, 2, 3, 5] rfl)
set_option maxHeartbeats 4000000 in
set_option maxRecDepth 100000 in
theorem bM_reduce_100 {p : Program} {l : Launch} {e : Env} {s : State} {m : MethodId} {below : List Frame} {meth : Method} {c : Code} {A : Nat → Prop} {D : va_G} {K : Nat → ClassId} {h0 : Nat} {a0 : Nat → Nat} {AR : Array Value} (C : (dc_C p s m AR meth c cM_reduce 6 (Option.some Jvm.ClassFile.FieldType.int) yM_reduce ∧ cf_E D K A s s.heap ∧ ∀ q, s.heap.size ≤ q → A q)) {n : Nat} (ih : IhM_reduce p l e s m below meth c A D K h0 a0 AR n) (v1 : Int32) (v2 : Int32) (v3 : Int32) (v4 : Int32) (o0 : cf_O) (r : Int32 × cf_O) (h : fM_reduce_100 (gM_reduce n) v1 v2 v3 v4 o0 = some r) {H : Heap} {locs : List Loc} {ls : Array Slot} (hP : va_P D vwCl (wM K h0 a0 o0) H) (hD : va_D A (wM K h0 a0 o0)) (hS : va_S A s.heap H locs) (hl : lv_has ls 6 [(0, .ref h0), (1, .int v1), (2, .int v2), (3, .int v3), (4, .int v4)]) : W p l e ({ frames := 3, cells := 0, slots := 0, locals := 69 }) s m AR below meth c H locs 0 0 (MQ below (va_Qi (fun (x : Int32) (_ : Unit) => x = r.1) (fun (_ : Unit) t => cf_At D A (wM K h0 a0 r.2) t) A) AR s 0 0 A) (F0 m 100 ls []) := by
  obtain ⟨⟨hx, hb, hr, hts, hown, hlocks, hin, hml⟩, hE, hA⟩ := id C
  have hK := hE.k
  refine lv_iconst (v := 1) hx hb dM_reduce_100 (by decide) ?_
  refine lv_goto (tgt := 105) hx hb dM_reduce_101 (by decide) ?_
  exact bM_reduce_105 C ih _ _ _ _ _ _ _ h hP hD hS (lv_sub hl [0, 1, 2, 3, 4] rfl)
set_option maxHeartbeats 4000000 in
set_option maxRecDepth 100000 in
theorem bM_reduce_67 {p : Program} {l : Launch} {e : Env} {s : State} {m : MethodId} {below : List Frame} {meth : Method} {c : Code} {A : Nat → Prop} {D : va_G} {K : Nat → ClassId} {h0 : Nat} {a0 : Nat → Nat} {AR : Array Value} (C : (dc_C p s m AR meth c cM_reduce 6 (Option.some Jvm.ClassFile.FieldType.int) yM_reduce ∧ cf_E D K A s s.heap ∧ ∀ q, s.heap.size ≤ q → A q)) {n : Nat} (ih : IhM_reduce p l e s m below meth c A D K h0 a0 AR n) (v1 : Int32) (v2 : Int32) (v3 : Int32) (v4 : Int32) (o0 : cf_O) (r : Int32 × cf_O) (h : fM_reduce_67 (gM_reduce n) v1 v2 v3 v4 o0 = some r) {H : Heap} {locs : List Loc} {ls : Array Slot} (hP : va_P D vwCl (wM K h0 a0 o0) H) (hD : va_D A (wM K h0 a0 o0)) (hS : va_S A s.heap H locs) (hl : lv_has ls 6 [(0, .ref h0), (1, .int v1), (2, .int v2), (3, .int v3), (4, .int v4)]) : W p l e ({ frames := 3, cells := 0, slots := 0, locals := 69 }) s m AR below meth c H locs 0 0 (MQ below (va_Qi (fun (x : Int32) (_ : Unit) => x = r.1) (fun (_ : Unit) t => cf_At D A (wM K h0 a0 r.2) t) A) AR s 0 0 A) (F0 m 67 ls []) := by
  obtain ⟨⟨hx, hb, hr, hts, hown, hlocks, hin, hml⟩, hE, hA⟩ := id C
  have hK := hE.k
  refine lv_iload hx hb dM_reduce_67 (lv_at hl 4 rfl) ?_
  refine lv_if_lt (tgt := 147) hx hb dM_reduce_69 (by decide) (fun c_1 => ?_) (fun c_1 => ?_)
  · have h := op_t c_1 h
    exact bM_reduce_147 C ih _ _ _ _ _ h hP hD hS (lv_sub hl [0, 1, 2, 3] rfl)
  · have h := op_f c_1 h
    refine lv_aload_n hx hb dM_reduce_72 rfl (lv_at hl 0 rfl) ?_
    refine va_get (D := D) (ci := 12) (v := .ref (a0 49)) (C := RM) (T := TM) (N := 99) hx hb hts inM hown hK hP 0 rfl rfl 49 (by decide) (hts _ wv_2031) (fun _ h9 => h9) rfl dM_reduce_73 ?_
    refine lv_iload_n hx hb dM_reduce_76 rfl (lv_at hl 2 rfl) ?_
    obtain ⟨hi_2, h⟩ := op_n h
    refine va_zald (D := D) hx hb hK hP 32 3 rfl rfl hi_2 dM_reduce_77 ?_
    refine lv_topi (fun x_3 ex_3 => ?_)
    have h := op_ks ex_3 h
    refine lv_if_eq (tgt := 147) hx hb dM_reduce_78 (by decide) (fun c_4 => ?_) (fun c_4 => ?_)
    · have h := op_t c_4 h
      exact bM_reduce_147 C ih _ _ _ _ _ h hP hD hS (lv_sub hl [0, 1, 2, 3] rfl)
    · have h := op_f c_4 h
      refine lv_iload hx hb dM_reduce_81 (lv_at hl 4 rfl) ?_
      refine lv_aload_n hx hb dM_reduce_83 rfl (lv_at hl 0 rfl) ?_
      obtain ⟨q_5, hq_5, h⟩ := op_b h
      refine dc_calli (va_runV (As := []) (rest := [.int v4]) ⟨hx, hb, hml, hown, hts⟩ (mM_base l D K _ h0 a0 o0 _ hq_5) (cwV 0 hts (cf_GV wv_2412 wv_2414 wv_88 wv_173 wv_2415) rfl rfl rfl (by decide +kernel) ⟨Nat.le_of_ble_eq_true rfl, Nat.le_of_ble_eq_true rfl⟩) (dc_preV hE hP hD hS hA rfl 0 rfl) rfl rfl hl.1 rfl (lv_room (Nat.le_of_ble_eq_true rfl)) dM_reduce_84 ⟨Nat.le_of_ble_eq_true rfl, Nat.le_of_ble_eq_true rfl⟩) hP hD hS hA (fun r_6 H locs hw_7 hP hD hS => ?_)
      subst r_6
      refine lv_icmp_lt (tgt := 100) hx hb dM_reduce_87 (by decide) (fun c_8 => ?_) (fun c_8 => ?_)
      · have h := op_t c_8 h
        exact bM_reduce_100 C ih _ _ _ _ _ _ h hP hD hS (lv_sub hl [0, 1, 2, 3, 4] rfl)
      · have h := op_f c_8 h
        refine lv_aload_n hx hb dM_reduce_90 rfl (lv_at hl 0 rfl) ?_
        refine va_get (D := D) (ci := 12) (v := .ref (a0 49)) (C := RM) (T := TM) (N := 99) hx hb hts inM hown hK hP 0 rfl rfl 49 (by decide) (hts _ wv_2031) (fun _ h9 => h9) rfl dM_reduce_91 ?_
        refine lv_iload hx hb dM_reduce_94 (lv_at hl 4 rfl) ?_
        obtain ⟨hi_9, h⟩ := op_n h
        refine va_zald (D := D) hx hb hK hP 32 3 rfl rfl hi_9 dM_reduce_96 ?_
        refine lv_topi (fun x_10 ex_10 => ?_)
        have h := op_ks ex_10 h
        refine lv_if_eq (tgt := 104) hx hb dM_reduce_97 (by decide) (fun c_11 => ?_) (fun c_11 => ?_)
        · have h := op_t c_11 h
          refine lv_iconst (v := 0) hx hb dM_reduce_104 (by decide) ?_
          exact bM_reduce_105 C ih _ _ _ _ _ _ _ h hP hD hS (lv_sub hl [0, 1, 2, 3, 4] rfl)
        · have h := op_f c_11 h
          exact bM_reduce_100 C ih _ _ _ _ _ _ h hP hD hS (lv_sub hl [0, 1, 2, 3, 4] rfl)
set_option maxHeartbeats 4000000 in
set_option maxRecDepth 100000 in
theorem bM_reduce_45 {p : Program} {l : Launch} {e : Env} {s : State} {m : MethodId} {below : List Frame} {meth : Method} {c : Code} {A : Nat → Prop} {D : va_G} {K : Nat → ClassId} {h0 : Nat} {a0 : Nat → Nat} {AR : Array Value} (C : (dc_C p s m AR meth c cM_reduce 6 (Option.some Jvm.ClassFile.FieldType.int) yM_reduce ∧ cf_E D K A s s.heap ∧ ∀ q, s.heap.size ≤ q → A q)) {n : Nat} (ih : IhM_reduce p l e s m below meth c A D K h0 a0 AR n) (v1 : Int32) (o0 : cf_O) (r : Int32 × cf_O) (h : fM_reduce_45 (gM_reduce n) v1 o0 = some r) {H : Heap} {locs : List Loc} {ls : Array Slot} (hP : va_P D vwCl (wM K h0 a0 o0) H) (hD : va_D A (wM K h0 a0 o0)) (hS : va_S A s.heap H locs) (hl : lv_has ls 6 [(0, .ref h0), (1, .int v1)]) : W p l e ({ frames := 3, cells := 0, slots := 0, locals := 69 }) s m AR below meth c H locs 0 0 (MQ below (va_Qi (fun (x : Int32) (_ : Unit) => x = r.1) (fun (_ : Unit) t => cf_At D A (wM K h0 a0 r.2) t) A) AR s 0 0 A) (F0 m 45 ls []) := by
  obtain ⟨⟨hx, hb, hr, hts, hown, hlocks, hin, hml⟩, hE, hA⟩ := id C
  have hK := hE.k
  refine lv_iload_n hx hb dM_reduce_45 rfl (lv_at hl 1 rfl) ?_
  refine lv_aload_n hx hb dM_reduce_46 rfl (lv_at hl 0 rfl) ?_
  refine va_get (D := D) (ci := 12) (v := .int (o0.1 43)) (C := RM) (T := TM) (N := 99) hx hb hts inM hown hK hP 0 rfl rfl 43 (by decide) (hts _ wv_2025) (fun _ h9 => h9) rfl dM_reduce_47 ?_
  refine lv_icmp_ge (tgt := 251) hx hb dM_reduce_50 (by decide) (fun c_1 => ?_) (fun c_1 => ?_)
  · have h := op_t c_1 h
    refine lv_aload_n hx hb dM_reduce_251 rfl (lv_at hl 0 rfl) ?_
    obtain ⟨q_2, hq_2, h⟩ := op_b h
    refine dc_calli (va_runV (As := []) (rest := []) ⟨hx, hb, hml, hown, hts⟩ (mM_finish l D K _ h0 a0 o0 _ hq_2) (cwV 0 hts (cf_GV wv_2452 wv_2454 wv_95 wv_173 wv_2455) rfl rfl rfl (by decide +kernel) ⟨Nat.le_of_ble_eq_true rfl, Nat.le_of_ble_eq_true rfl⟩) (dc_preV hE hP hD hS hA rfl 0 rfl) rfl rfl hl.1 rfl (lv_room (Nat.le_of_ble_eq_true rfl)) dM_reduce_252 ⟨Nat.le_of_ble_eq_true rfl, Nat.le_of_ble_eq_true rfl⟩) hP hD hS hA (fun r_3 H locs hw_4 hP hD hS => ?_)
    subst r_3
    obtain rfl := Option.some.inj h
    exact dc_iret hx hb hr hlocks rfl hP hD hS dM_reduce_255
  · have h := op_f c_1 h
    refine lv_aload_n hx hb dM_reduce_53 rfl (lv_at hl 0 rfl) ?_
    obtain ⟨q_5, hq_5, h⟩ := op_b h
    refine dc_calli (va_runV (As := []) (rest := []) ⟨hx, hb, hml, hown, hts⟩ (mM_base l D K _ h0 a0 o0 _ hq_5) (cwV 0 hts (cf_GV wv_2412 wv_2414 wv_88 wv_173 wv_2415) rfl rfl rfl (by decide +kernel) ⟨Nat.le_of_ble_eq_true rfl, Nat.le_of_ble_eq_true rfl⟩) (dc_preV hE hP hD hS hA rfl 0 rfl) rfl rfl hl.1 rfl (lv_room (Nat.le_of_ble_eq_true rfl)) dM_reduce_54 ⟨Nat.le_of_ble_eq_true rfl, Nat.le_of_ble_eq_true rfl⟩) hP hD hS hA (fun r_6 H locs hw_7 hP hD hS => ?_)
    subst r_6
    refine lv_iload_n hx hb dM_reduce_57 rfl (lv_at hl 1 rfl) ?_
    refine lv_iadd hx hb dM_reduce_58 ?_
    refine lv_topi (fun x_8 ex_8 => ?_)
    have h := op_ks ex_8 h
    refine lv_istore_n (lv' := [(2, .int x_8), (0, .ref h0), (1, .int v1)]) hx hb dM_reduce_59 rfl hl (by decide) rfl (fun ls hl => ?_)
    refine lv_iconst (v := (-1)) hx hb dM_reduce_60 (by decide) ?_
    refine lv_istore_n (lv' := [(3, .int (-1)), (2, .int x_8), (0, .ref h0), (1, .int v1)]) hx hb dM_reduce_61 rfl hl (by decide) rfl (fun ls hl => ?_)
    refine lv_iload_n hx hb dM_reduce_62 rfl (lv_at hl 1 rfl) ?_
    refine lv_iconst (v := 1) hx hb dM_reduce_63 (by decide) ?_
    refine lv_isub hx hb dM_reduce_64 ?_
    refine lv_topi (fun x_9 ex_9 => ?_)
    have h := op_ks ex_9 h
    refine lv_istore (lv' := [(4, .int x_9), (3, .int (-1)), (2, .int x_8), (0, .ref h0), (1, .int v1)]) hx hb dM_reduce_65 hl (by decide) rfl (fun ls hl => ?_)
    exact (ih.2) _ _ _ _ _ _ h hP hD hS (lv_sub hl [3, 4, 2, 1, 0] rfl)
set_option maxHeartbeats 4000000 in
set_option maxRecDepth 100000 in
theorem bM_reduce_13 {p : Program} {l : Launch} {e : Env} {s : State} {m : MethodId} {below : List Frame} {meth : Method} {c : Code} {A : Nat → Prop} {D : va_G} {K : Nat → ClassId} {h0 : Nat} {a0 : Nat → Nat} {AR : Array Value} (C : (dc_C p s m AR meth c cM_reduce 6 (Option.some Jvm.ClassFile.FieldType.int) yM_reduce ∧ cf_E D K A s s.heap ∧ ∀ q, s.heap.size ≤ q → A q)) {n : Nat} (ih : IhM_reduce p l e s m below meth c A D K h0 a0 AR n) (s1 : Int32) (o0 : cf_O) (r : Int32 × cf_O) (h : fM_reduce_13 (gM_reduce n) s1 o0 = some r) {H : Heap} {locs : List Loc} {ls : Array Slot} (hP : va_P D vwCl (wM K h0 a0 o0) H) (hD : va_D A (wM K h0 a0 o0)) (hS : va_S A s.heap H locs) (hl : lv_has ls 6 [(0, .ref h0)]) : W p l e ({ frames := 3, cells := 0, slots := 0, locals := 69 }) s m AR below meth c H locs 0 0 (MQ below (va_Qi (fun (x : Int32) (_ : Unit) => x = r.1) (fun (_ : Unit) t => cf_At D A (wM K h0 a0 r.2) t) A) AR s 0 0 A) (F0 m 13 ls [.int s1, .ref h0]) := by
  obtain ⟨⟨hx, hb, hr, hts, hown, hlocks, hin, hml⟩, hE, hA⟩ := id C
  have hK := hE.k
  refine lv_iconst (v := 0) hx hb dM_reduce_13 (by decide) ?_
  refine lv_iconst (v := 0) hx hb dM_reduce_14 (by decide) ?_
  obtain ⟨q_1, hq_1, h⟩ := op_b h
  refine dc_calli (va_runV (As := [.int s1, .int 0, .int 0]) (rest := []) ⟨hx, hb, hml, hown, hts⟩ (mM_refuse l D K _ s1 0 0 h0 a0 o0 _ hq_1) (cwV 3 hts (cf_GV wv_2291 wv_2293 wv_63 wv_173 wv_2294) rfl rfl rfl (by decide +kernel) ⟨Nat.le_of_ble_eq_true rfl, Nat.le_of_ble_eq_true rfl⟩) (dc_preV hE hP hD hS hA rfl 0 rfl) rfl rfl hl.1 rfl (lv_room (Nat.le_of_ble_eq_true rfl)) dM_reduce_15 ⟨Nat.le_of_ble_eq_true rfl, Nat.le_of_ble_eq_true rfl⟩) hP hD hS hA (fun r_2 H locs hw_3 hP hD hS => ?_)
  subst r_2
  refine lv_if_eq (tgt := 23) hx hb dM_reduce_18 (by decide) (fun c_4 => ?_) (fun c_4 => ?_)
  · have h := op_t c_4 h
    refine lv_aload_n hx hb dM_reduce_23 rfl (lv_at hl 0 rfl) ?_
    obtain ⟨q_5, hq_5, h⟩ := op_b h
    refine dc_callv (va_runV (As := []) (rest := []) ⟨hx, hb, hml, hown, hts⟩ (mM_look l D K _ h0 a0 q_1.2 _ hq_5) (cwV 0 hts (cf_GV wv_2432 wv_2434 wv_90 wv_173 wv_2435) rfl rfl rfl (by decide +kernel) ⟨Nat.le_of_ble_eq_true rfl, Nat.le_of_ble_eq_true rfl⟩) (dc_preV hE hP hD hS hA rfl 0 rfl) rfl rfl hl.1 rfl (lv_room (Nat.le_of_ble_eq_true rfl)) dM_reduce_24 ⟨Nat.le_of_ble_eq_true rfl, Nat.le_of_ble_eq_true rfl⟩) hP hD hS hA (fun H locs hP hD hS => ?_)
    refine lv_aload_n hx hb dM_reduce_27 rfl (lv_at hl 0 rfl) ?_
    obtain ⟨q_7, hq_7, h⟩ := op_b h
    refine dc_callv (va_runV (As := []) (rest := []) ⟨hx, hb, hml, hown, hts⟩ (mM_reckon l D K _ h0 a0 q_5 _ hq_7) (cwV 0 hts (cf_GV wv_2460 wv_2462 wv_96 wv_173 wv_2463) rfl rfl rfl (by decide +kernel) ⟨Nat.le_of_ble_eq_true rfl, Nat.le_of_ble_eq_true rfl⟩) (dc_preV hE hP hD hS hA rfl 0 rfl) rfl rfl hl.1 rfl (lv_room (Nat.le_of_ble_eq_true rfl)) dM_reduce_28 ⟨Nat.le_of_ble_eq_true rfl, Nat.le_of_ble_eq_true rfl⟩) hP hD hS hA (fun H locs hP hD hS => ?_)
    refine lv_aload_n hx hb dM_reduce_31 rfl (lv_at hl 0 rfl) ?_
    refine lv_aload_n hx hb dM_reduce_32 rfl (lv_at hl 0 rfl) ?_
    obtain ⟨q_9, hq_9, h⟩ := op_b h
    refine dc_calli (va_runV (As := []) (rest := [.ref h0]) ⟨hx, hb, hml, hown, hts⟩ (mM_base l D K _ h0 a0 q_7 _ hq_9) (cwV 0 hts (cf_GV wv_2412 wv_2414 wv_88 wv_173 wv_2415) rfl rfl rfl (by decide +kernel) ⟨Nat.le_of_ble_eq_true rfl, Nat.le_of_ble_eq_true rfl⟩) (dc_preV hE hP hD hS hA rfl 0 rfl) rfl rfl hl.1 rfl (lv_room (Nat.le_of_ble_eq_true rfl)) dM_reduce_33 ⟨Nat.le_of_ble_eq_true rfl, Nat.le_of_ble_eq_true rfl⟩) hP hD hS hA (fun r_10 H locs hw_11 hP hD hS => ?_)
    subst r_10
    obtain ⟨q_12, hq_12, h⟩ := op_b h
    refine dc_callv (va_runV (As := [.int q_9]) (rest := []) ⟨hx, hb, hml, hown, hts⟩ (mM_begin l D K _ q_9 h0 a0 q_7 _ hq_12) (cwV 1 hts (cf_GV wv_2368 wv_2370 wv_80 wv_173 wv_2371) rfl rfl rfl (by decide +kernel) ⟨Nat.le_of_ble_eq_true rfl, Nat.le_of_ble_eq_true rfl⟩) (dc_preV hE hP hD hS hA rfl 0 rfl) rfl rfl hl.1 rfl (lv_room (Nat.le_of_ble_eq_true rfl)) dM_reduce_36 ⟨Nat.le_of_ble_eq_true rfl, Nat.le_of_ble_eq_true rfl⟩) hP hD hS hA (fun H locs hP hD hS => ?_)
    refine lv_aload_n hx hb dM_reduce_39 rfl (lv_at hl 0 rfl) ?_
    obtain ⟨q_14, hq_14, h⟩ := op_b h
    refine dc_callv (va_runV (As := []) (rest := []) ⟨hx, hb, hml, hown, hts⟩ (mM_old l D K _ h0 a0 q_12 _ hq_14) (cwV 0 hts (cf_GV wv_2440 wv_2442 wv_92 wv_173 wv_2443) rfl rfl rfl (by decide +kernel) ⟨Nat.le_of_ble_eq_true rfl, Nat.le_of_ble_eq_true rfl⟩) (dc_preV hE hP hD hS hA rfl 0 rfl) rfl rfl hl.1 rfl (lv_room (Nat.le_of_ble_eq_true rfl)) dM_reduce_40 ⟨Nat.le_of_ble_eq_true rfl, Nat.le_of_ble_eq_true rfl⟩) hP hD hS hA (fun H locs hP hD hS => ?_)
    refine lv_iconst (v := 0) hx hb dM_reduce_43 (by decide) ?_
    refine lv_istore_n (lv' := [(1, .int 0), (0, .ref h0)]) hx hb dM_reduce_44 rfl hl (by decide) rfl (fun ls hl => ?_)
    exact (ih.1) _ _ _ h hP hD hS (lv_sub hl [1, 0] rfl)
  · have h := op_f c_4 h
    refine lv_iconst (v := 0) hx hb dM_reduce_21 (by decide) ?_
    obtain rfl := Option.some.inj h
    exact dc_iret hx hb hr hlocks rfl hP hD hS dM_reduce_22
set_option maxHeartbeats 4000000 in
set_option maxRecDepth 100000 in
theorem bM_reduce_0 {p : Program} {l : Launch} {e : Env} {s : State} {m : MethodId} {below : List Frame} {meth : Method} {c : Code} {A : Nat → Prop} {D : va_G} {K : Nat → ClassId} {h0 : Nat} {a0 : Nat → Nat} {AR : Array Value} (C : (dc_C p s m AR meth c cM_reduce 6 (Option.some Jvm.ClassFile.FieldType.int) yM_reduce ∧ cf_E D K A s s.heap ∧ ∀ q, s.heap.size ≤ q → A q)) {n : Nat} (ih : IhM_reduce p l e s m below meth c A D K h0 a0 AR n) (o0 : cf_O) (r : Int32 × cf_O) (h : fM_reduce_0 (gM_reduce n) o0 = some r) {H : Heap} {locs : List Loc} {ls : Array Slot} (hP : va_P D vwCl (wM K h0 a0 o0) H) (hD : va_D A (wM K h0 a0 o0)) (hS : va_S A s.heap H locs) (hl : lv_has ls 6 [(0, .ref h0)]) : W p l e ({ frames := 3, cells := 0, slots := 0, locals := 69 }) s m AR below meth c H locs 0 0 (MQ below (va_Qi (fun (x : Int32) (_ : Unit) => x = r.1) (fun (_ : Unit) t => cf_At D A (wM K h0 a0 r.2) t) A) AR s 0 0 A) (F0 m 0 ls []) := by
  obtain ⟨⟨hx, hb, hr, hts, hown, hlocks, hin, hml⟩, hE, hA⟩ := id C
  have hK := hE.k
  refine lv_aload_n hx hb dM_reduce_0 rfl (lv_at hl 0 rfl) ?_
  refine lv_aload_n hx hb dM_reduce_1 rfl (lv_at hl 0 rfl) ?_
  refine va_get (D := D) (ci := 12) (v := .int (o0.1 38)) (C := RM) (T := TM) (N := 99) hx hb hts inM hown hK hP 0 rfl rfl 38 (by decide) (hts _ wv_2020) (fun _ h9 => h9) rfl dM_reduce_2 ?_
  refine lv_if_ne (tgt := 12) hx hb dM_reduce_5 (by decide) (fun c_1 => ?_) (fun c_1 => ?_)
  · have h := op_f c_1 h
    refine lv_iconst (v := 0) hx hb dM_reduce_12 (by decide) ?_
    exact bM_reduce_13 C ih _ _ _ h hP hD hS (lv_sub hl [0] rfl)
  · have h := op_t c_1 h
    refine lv_iconst (v := 1) hx hb dM_reduce_8 (by decide) ?_
    refine lv_goto (tgt := 13) hx hb dM_reduce_9 (by decide) ?_
    exact bM_reduce_13 C ih _ _ _ h hP hD hS (lv_sub hl [0] rfl)
theorem iiM_reduce {p : Program} {l : Launch} {e : Env} {s : State} {m : MethodId} {below : List Frame} {meth : Method} {c : Code} {A : Nat → Prop} {D : va_G} {K : Nat → ClassId} {h0 : Nat} {a0 : Nat → Nat} {AR : Array Value} (C : (dc_C p s m AR meth c cM_reduce 6 (Option.some Jvm.ClassFile.FieldType.int) yM_reduce ∧ cf_E D K A s s.heap ∧ ∀ q, s.heap.size ≤ q → A q)) : ∀ n, IhM_reduce p l e s m below meth c A D K h0 a0 AR n := by
  intro n
  induction n with
  | zero => exact ⟨(fun _ _ r h => by cases (show none = some r from h)), (fun _ _ _ _ _ r h => by cases (show none = some r from h))⟩
  | succ n ih => exact ⟨fun x0 x1 r h _ _ _ hP hD hS hl => bM_reduce_45 C ih x0 x1 r h hP hD hS hl, fun x0 x1 x2 x3 x4 r h _ _ _ hP hD hS hl => bM_reduce_67 C ih x0 x1 x2 x3 x4 r h hP hD hS hl⟩
set_option maxRecDepth 100000 in
theorem mM_reduce (l : Launch) (D : va_G) (K : Nat → ClassId) (sz : Nat) (h0 : Nat) (a0 : Nat → Nat) (o0 : cf_O) (r : Int32 × cf_O) (h : fM_reduce o0 = some r) : Met l yM_reduce (Cond.code yM_reduce cM_reduce 6 (Option.some Jvm.ClassFile.FieldType.int) :: cfB) ({ frames := 3, cells := 0, slots := 0, locals := 69 }) (va_Pc [.ref h0] (cf_Pre D K sz (wM K h0 a0 o0))) (va_Qi (fun (x : Int32) (_ : Unit) => x = r.1) (fun (_ : Unit) t => cf_At D (va_A (wM K h0 a0 o0) sz) (wM K h0 a0 r.2) t) (va_A (wM K h0 a0 o0) sz)) 0 0 (va_A (wM K h0 a0 o0) sz) := by
  refine cf_ofW (y := yM_reduce) (As := [.ref h0]) (WS := wM K h0 a0 o0) (maxL := 6) (fun A => (va_Qi (fun (x : Int32) (_ : Unit) => x = r.1) (fun (_ : Unit) t => cf_At D A (wM K h0 a0 r.2) t) A)) (by decide) (Nat.le_of_ble_eq_true rfl) ?_
  intro p e s m below meth c A ls En hsz hA hP hD hE hS hl
  have C : (dc_C p s m (([.ref h0] : List Value).toArray) meth c cM_reduce 6 (Option.some Jvm.ClassFile.FieldType.int) yM_reduce ∧ cf_E D K A s s.heap ∧ ∀ q, s.heap.size ≤ q → A q) := ⟨En, hE, hA⟩
  exact bM_reduce_0 C (iiM_reduce C cfFU) o0 r h hP hD hS hl
def IhM_join (p : Program) (l : Launch) (e : Env) (s : State) (m : MethodId) (below : List Frame) (meth : Method) (c : Code) (A : Nat → Prop) (D : va_G) (K : Nat → ClassId) (h0 : Nat) (a0 : Nat → Nat) (AR : Array Value) (n : Nat) : Prop := (∀ (v1 : Int32) (v2 : Int32) (v3 : Int32) (v4 : Int32) (v5 : Int32) (o0 : cf_O) (r : Int32 × cf_O), gM_join n 0 v1 v2 v3 v4 v5 o0 = some r → ∀ {H : Heap} {locs : List Loc} {ls : Array Slot}, (va_P D vwCl (wM K h0 a0 o0) H) → (va_D A (wM K h0 a0 o0)) → va_S A s.heap H locs → lv_has ls 8 [(0, .ref h0), (1, .int v1), (2, .int v2), (3, .int v3), (4, .int v4), (5, .int v5)] → W p l e ({ frames := 0, cells := 0, slots := 0, locals := 0 }) s m AR below meth c H locs 0 0 (MQ below (va_Qi (fun (x : Int32) (_ : Unit) => x = r.1) (fun (_ : Unit) t => cf_At D A (wM K h0 a0 r.2) t) A) AR s 0 0 A) (F0 m 8 ls []))
set_option maxHeartbeats 4000000 in
set_option maxRecDepth 100000 in
theorem bM_join_142 {p : Program} {l : Launch} {e : Env} {s : State} {m : MethodId} {below : List Frame} {meth : Method} {c : Code} {A : Nat → Prop} {D : va_G} {K : Nat → ClassId} {h0 : Nat} {a0 : Nat → Nat} {AR : Array Value} (C : (dc_C p s m AR meth c cM_join 8 (Option.some Jvm.ClassFile.FieldType.int) yM_join ∧ cf_E D K A s s.heap ∧ ∀ q, s.heap.size ≤ q → A q)) {n : Nat} (ih : IhM_join p l e s m below meth c A D K h0 a0 AR n) (v1 : Int32) (v2 : Int32) (v3 : Int32) (v5 : Int32) (s0 : Int32) (o0 : cf_O) (r : Int32 × cf_O) (h : fM_join_142 (gM_join n) v1 v2 v3 v5 s0 o0 = some r) {H : Heap} {locs : List Loc} {ls : Array Slot} (hP : va_P D vwCl (wM K h0 a0 o0) H) (hD : va_D A (wM K h0 a0 o0)) (hS : va_S A s.heap H locs) (hl : lv_has ls 8 [(0, .ref h0), (1, .int v1), (2, .int v2), (3, .int v3), (5, .int v5)]) : W p l e ({ frames := 0, cells := 0, slots := 0, locals := 0 }) s m AR below meth c H locs 0 0 (MQ below (va_Qi (fun (x : Int32) (_ : Unit) => x = r.1) (fun (_ : Unit) t => cf_At D A (wM K h0 a0 r.2) t) A) AR s 0 0 A) (F0 m 142 ls [.int s0]) := by
  obtain ⟨⟨hx, hb, hr, hts, hown, hlocks, hin, hml⟩, hE, hA⟩ := id C
  have hK := hE.k
  refine lv_istore (lv' := [(4, .int s0), (0, .ref h0), (1, .int v1), (2, .int v2), (3, .int v3), (5, .int v5)]) hx hb dM_join_142 hl (by decide) rfl (fun ls hl => ?_)
  refine lv_goto (tgt := 8) hx hb dM_join_144 (by decide) ?_
  exact (ih) _ _ _ _ _ _ _ h hP hD hS (lv_sub hl [1, 2, 3, 4, 0, 5] rfl)
set_option maxHeartbeats 4000000 in
set_option maxRecDepth 100000 in
theorem bM_join_125 {p : Program} {l : Launch} {e : Env} {s : State} {m : MethodId} {below : List Frame} {meth : Method} {c : Code} {A : Nat → Prop} {D : va_G} {K : Nat → ClassId} {h0 : Nat} {a0 : Nat → Nat} {AR : Array Value} (C : (dc_C p s m AR meth c cM_join 8 (Option.some Jvm.ClassFile.FieldType.int) yM_join ∧ cf_E D K A s s.heap ∧ ∀ q, s.heap.size ≤ q → A q)) {n : Nat} (ih : IhM_join p l e s m below meth c A D K h0 a0 AR n) (v1 : Int32) (v2 : Int32) (v4 : Int32) (v5 : Int32) (v6 : Int32) (v7 : Int32) (s0 : Int32) (o0 : cf_O) (r : Int32 × cf_O) (h : fM_join_125 (gM_join n) v1 v2 v4 v5 v6 v7 s0 o0 = some r) {H : Heap} {locs : List Loc} {ls : Array Slot} (hP : va_P D vwCl (wM K h0 a0 o0) H) (hD : va_D A (wM K h0 a0 o0)) (hS : va_S A s.heap H locs) (hl : lv_has ls 8 [(0, .ref h0), (1, .int v1), (2, .int v2), (4, .int v4), (5, .int v5), (6, .int v6), (7, .int v7)]) : W p l e ({ frames := 0, cells := 0, slots := 0, locals := 0 }) s m AR below meth c H locs 0 0 (MQ below (va_Qi (fun (x : Int32) (_ : Unit) => x = r.1) (fun (_ : Unit) t => cf_At D A (wM K h0 a0 r.2) t) A) AR s 0 0 A) (F0 m 125 ls [.int s0]) := by
  obtain ⟨⟨hx, hb, hr, hts, hown, hlocks, hin, hml⟩, hE, hA⟩ := id C
  have hK := hE.k
  refine lv_istore_n (lv' := [(3, .int s0), (0, .ref h0), (1, .int v1), (2, .int v2), (4, .int v4), (5, .int v5), (6, .int v6), (7, .int v7)]) hx hb dM_join_125 rfl hl (by decide) rfl (fun ls hl => ?_)
  refine lv_iload hx hb dM_join_126 (lv_at hl 7 rfl) ?_
  refine lv_iload hx hb dM_join_128 (lv_at hl 6 rfl) ?_
  refine lv_icmp_gt (tgt := 140) hx hb dM_join_130 (by decide) (fun c_1 => ?_) (fun c_1 => ?_)
  · have h := op_t c_1 h
    refine lv_iload hx hb dM_join_140 (lv_at hl 4 rfl) ?_
    exact bM_join_142 C ih _ _ _ _ _ _ _ h hP hD hS (lv_sub hl [1, 2, 3, 0, 5] rfl)
  · have h := op_f c_1 h
    refine lv_iload hx hb dM_join_133 (lv_at hl 4 rfl) ?_
    refine lv_iconst (v := 1) hx hb dM_join_135 (by decide) ?_
    refine lv_iadd hx hb dM_join_136 ?_
    refine lv_topi (fun x_2 ex_2 => ?_)
    have h := op_ks ex_2 h
    refine lv_goto (tgt := 142) hx hb dM_join_137 (by decide) ?_
    exact bM_join_142 C ih _ _ _ _ _ _ _ h hP hD hS (lv_sub hl [1, 2, 3, 0, 5] rfl)
set_option maxHeartbeats 4000000 in
set_option maxRecDepth 100000 in
theorem bM_join_107 {p : Program} {l : Launch} {e : Env} {s : State} {m : MethodId} {below : List Frame} {meth : Method} {c : Code} {A : Nat → Prop} {D : va_G} {K : Nat → ClassId} {h0 : Nat} {a0 : Nat → Nat} {AR : Array Value} (C : (dc_C p s m AR meth c cM_join 8 (Option.some Jvm.ClassFile.FieldType.int) yM_join ∧ cf_E D K A s s.heap ∧ ∀ q, s.heap.size ≤ q → A q)) {n : Nat} (ih : IhM_join p l e s m below meth c A D K h0 a0 AR n) (v1 : Int32) (v2 : Int32) (v3 : Int32) (v4 : Int32) (v5 : Int32) (v6 : Int32) (v7 : Int32) (s1 : Int32) (s2 : Int32) (o0 : cf_O) (r : Int32 × cf_O) (h : fM_join_107 (gM_join n) v1 v2 v3 v4 v5 v6 v7 s1 s2 o0 = some r) {H : Heap} {locs : List Loc} {ls : Array Slot} (hP : va_P D vwCl (wM K h0 a0 o0) H) (hD : va_D A (wM K h0 a0 o0)) (hS : va_S A s.heap H locs) (hl : lv_has ls 8 [(0, .ref h0), (1, .int v1), (2, .int v2), (3, .int v3), (4, .int v4), (5, .int v5), (6, .int v6), (7, .int v7)]) : W p l e ({ frames := 0, cells := 0, slots := 0, locals := 0 }) s m AR below meth c H locs 0 0 (MQ below (va_Qi (fun (x : Int32) (_ : Unit) => x = r.1) (fun (_ : Unit) t => cf_At D A (wM K h0 a0 r.2) t) A) AR s 0 0 A) (F0 m 107 ls [.int s2, .int s1, .ref (a0 61)]) := by
  obtain ⟨⟨hx, hb, hr, hts, hown, hlocks, hin, hml⟩, hE, hA⟩ := id C
  have hK := hE.k
  obtain ⟨hi_1, h⟩ := op_n h
  refine va_iast (D := D) hx hb hK hP hD hS 42 0 rfl rfl hi_1 dM_join_107 (fun H locs hP hD hS => ?_)
  have hP : va_P D vwCl (wM K h0 a0 (xp o0 61 s1.toNatClampNeg s2)) H := hP
  have hD : va_D A (wM K h0 a0 (xp o0 61 s1.toNatClampNeg s2)) := hD
  obtain ⟨o_2, eo_2, h⟩ := op_kx h
  rw [← eo_2] at hP hD
  obtain ⟨x_3, ex_3⟩ : ∃ y : Int32, y = v5 + 1 := ⟨_, rfl⟩
  refine lv_iinc (v := x_3) (lv' := [(5, .int x_3), (0, .ref h0), (1, .int v1), (2, .int v2), (3, .int v3), (4, .int v4), (6, .int v6), (7, .int v7)]) hx hb dM_join_108 hl (k := 5) rfl (by rw [ex_3]; rfl) (by decide) rfl (fun ls hl => ?_)
  have h := op_ks ex_3 h
  refine lv_iload hx hb dM_join_111 (lv_at hl 6 rfl) ?_
  refine lv_iload hx hb dM_join_113 (lv_at hl 7 rfl) ?_
  refine lv_icmp_gt (tgt := 124) hx hb dM_join_115 (by decide) (fun c_4 => ?_) (fun c_4 => ?_)
  · have h := op_t c_4 h
    refine lv_iload_n hx hb dM_join_124 rfl (lv_at hl 4 rfl) ?_
    exact bM_join_125 C ih _ _ _ _ _ _ _ _ _ h hP hD hS (lv_sub hl [1, 2, 3, 5, 0, 6, 7] rfl)
  · have h := op_f c_4 h
    refine lv_iload_n hx hb dM_join_118 rfl (lv_at hl 4 rfl) ?_
    refine lv_iconst (v := 1) hx hb dM_join_119 (by decide) ?_
    refine lv_iadd hx hb dM_join_120 ?_
    refine lv_topi (fun x_5 ex_5 => ?_)
    have h := op_ks ex_5 h
    refine lv_goto (tgt := 125) hx hb dM_join_121 (by decide) ?_
    exact bM_join_125 C ih _ _ _ _ _ _ _ _ _ h hP hD hS (lv_sub hl [1, 2, 3, 5, 0, 6, 7] rfl)
set_option maxHeartbeats 4000000 in
set_option maxRecDepth 100000 in
theorem bM_join_85 {p : Program} {l : Launch} {e : Env} {s : State} {m : MethodId} {below : List Frame} {meth : Method} {c : Code} {A : Nat → Prop} {D : va_G} {K : Nat → ClassId} {h0 : Nat} {a0 : Nat → Nat} {AR : Array Value} (C : (dc_C p s m AR meth c cM_join 8 (Option.some Jvm.ClassFile.FieldType.int) yM_join ∧ cf_E D K A s s.heap ∧ ∀ q, s.heap.size ≤ q → A q)) {n : Nat} (ih : IhM_join p l e s m below meth c A D K h0 a0 AR n) (v1 : Int32) (v2 : Int32) (v3 : Int32) (v4 : Int32) (v5 : Int32) (v6 : Int32) (s0 : Int32) (o0 : cf_O) (r : Int32 × cf_O) (h : fM_join_85 (gM_join n) v1 v2 v3 v4 v5 v6 s0 o0 = some r) {H : Heap} {locs : List Loc} {ls : Array Slot} (hP : va_P D vwCl (wM K h0 a0 o0) H) (hD : va_D A (wM K h0 a0 o0)) (hS : va_S A s.heap H locs) (hl : lv_has ls 8 [(0, .ref h0), (1, .int v1), (2, .int v2), (3, .int v3), (4, .int v4), (5, .int v5), (6, .int v6)]) : W p l e ({ frames := 0, cells := 0, slots := 0, locals := 0 }) s m AR below meth c H locs 0 0 (MQ below (va_Qi (fun (x : Int32) (_ : Unit) => x = r.1) (fun (_ : Unit) t => cf_At D A (wM K h0 a0 r.2) t) A) AR s 0 0 A) (F0 m 85 ls [.int s0]) := by
  obtain ⟨⟨hx, hb, hr, hts, hown, hlocks, hin, hml⟩, hE, hA⟩ := id C
  have hK := hE.k
  refine lv_istore (lv' := [(7, .int s0), (0, .ref h0), (1, .int v1), (2, .int v2), (3, .int v3), (4, .int v4), (5, .int v5), (6, .int v6)]) hx hb dM_join_85 hl (by decide) rfl (fun ls hl => ?_)
  refine lv_aload_n hx hb dM_join_87 rfl (lv_at hl 1 rfl) ?_
  refine va_get (D := D) (ci := 12) (v := .ref (a0 61)) (C := RM) (T := TM) (N := 99) hx hb hts inM hown hK hP 0 rfl rfl 61 (by decide) (hts _ wv_2043) (fun _ h9 => h9) rfl dM_join_88 ?_
  refine lv_iload hx hb dM_join_91 (lv_at hl 6 rfl) ?_
  refine lv_iload hx hb dM_join_93 (lv_at hl 7 rfl) ?_
  refine lv_iload hx hb dM_join_95 (lv_at hl 0 rfl) ?_
  refine lv_icmp_ge (tgt := 105) hx hb dM_join_97 (by decide) (fun c_1 => ?_) (fun c_1 => ?_)
  · have h := op_t c_1 h
    refine lv_iload hx hb dM_join_105 (lv_at hl 0 rfl) ?_
    exact bM_join_107 C ih _ _ _ _ _ _ _ _ _ _ _ h hP hD hS (lv_sub hl [1, 2, 3, 4, 5, 6, 7, 0] rfl)
  · have h := op_f c_1 h
    refine lv_iload hx hb dM_join_100 (lv_at hl 7 rfl) ?_
    refine lv_goto (tgt := 107) hx hb dM_join_102 (by decide) ?_
    exact bM_join_107 C ih _ _ _ _ _ _ _ _ _ _ _ h hP hD hS (lv_sub hl [1, 2, 3, 4, 5, 6, 7, 0] rfl)
set_option maxHeartbeats 4000000 in
set_option maxRecDepth 100000 in
theorem bM_join_55 {p : Program} {l : Launch} {e : Env} {s : State} {m : MethodId} {below : List Frame} {meth : Method} {c : Code} {A : Nat → Prop} {D : va_G} {K : Nat → ClassId} {h0 : Nat} {a0 : Nat → Nat} {AR : Array Value} (C : (dc_C p s m AR meth c cM_join 8 (Option.some Jvm.ClassFile.FieldType.int) yM_join ∧ cf_E D K A s s.heap ∧ ∀ q, s.heap.size ≤ q → A q)) {n : Nat} (ih : IhM_join p l e s m below meth c A D K h0 a0 AR n) (v1 : Int32) (v2 : Int32) (v3 : Int32) (v4 : Int32) (v5 : Int32) (s0 : Int32) (o0 : cf_O) (r : Int32 × cf_O) (h : fM_join_55 (gM_join n) v1 v2 v3 v4 v5 s0 o0 = some r) {H : Heap} {locs : List Loc} {ls : Array Slot} (hP : va_P D vwCl (wM K h0 a0 o0) H) (hD : va_D A (wM K h0 a0 o0)) (hS : va_S A s.heap H locs) (hl : lv_has ls 8 [(0, .ref h0), (1, .int v1), (2, .int v2), (3, .int v3), (4, .int v4), (5, .int v5)]) : W p l e ({ frames := 0, cells := 0, slots := 0, locals := 0 }) s m AR below meth c H locs 0 0 (MQ below (va_Qi (fun (x : Int32) (_ : Unit) => x = r.1) (fun (_ : Unit) t => cf_At D A (wM K h0 a0 r.2) t) A) AR s 0 0 A) (F0 m 55 ls [.int s0]) := by
  obtain ⟨⟨hx, hb, hr, hts, hown, hlocks, hin, hml⟩, hE, hA⟩ := id C
  have hK := hE.k
  refine lv_istore (lv' := [(6, .int s0), (0, .ref h0), (1, .int v1), (2, .int v2), (3, .int v3), (4, .int v4), (5, .int v5)]) hx hb dM_join_55 hl (by decide) rfl (fun ls hl => ?_)
  refine lv_iload hx hb dM_join_57 (lv_at hl 5 rfl) ?_
  refine lv_aload_n hx hb dM_join_59 rfl (lv_at hl 1 rfl) ?_
  refine va_get (D := D) (ci := 12) (v := .ref (a0 59)) (C := RM) (T := TM) (N := 99) hx hb hts inM hown hK hP 0 rfl rfl 59 (by decide) (hts _ wv_2041) (fun _ h9 => h9) rfl dM_join_60 ?_
  refine lv_iload_n hx hb dM_join_63 rfl (lv_at hl 3 rfl) ?_
  obtain ⟨hi_1, h⟩ := op_n h
  refine va_iald (D := D) hx hb hK hP 40 0 rfl rfl hi_1 dM_join_64 ?_
  refine lv_topi (fun x_2 ex_2 => ?_)
  have h := op_ks ex_2 h
  refine lv_icmp_ge (tgt := 82) hx hb dM_join_65 (by decide) (fun c_3 => ?_) (fun c_3 => ?_)
  · have h := op_t c_3 h
    refine lv_sipush (v := 999) hx hb dM_join_82 (by decide) ?_
    exact bM_join_85 C ih _ _ _ _ _ _ _ _ _ h hP hD hS (lv_sub hl [1, 2, 3, 4, 5, 6, 0] rfl)
  · have h := op_f c_3 h
    refine lv_aload_n hx hb dM_join_68 rfl (lv_at hl 1 rfl) ?_
    refine va_get (D := D) (ci := 12) (v := .ref (a0 58)) (C := RM) (T := TM) (N := 99) hx hb hts inM hown hK hP 0 rfl rfl 58 (by decide) (hts _ wv_2040) (fun _ h9 => h9) rfl dM_join_69 ?_
    refine lv_iconst (v := 5) hx hb dM_join_72 (by decide) ?_
    refine lv_iload_n hx hb dM_join_73 rfl (lv_at hl 3 rfl) ?_
    refine lv_imul hx hb dM_join_74 ?_
    refine lv_topi (fun x_4 ex_4 => ?_)
    have h := op_ks ex_4 h
    refine lv_iload hx hb dM_join_75 (lv_at hl 5 rfl) ?_
    refine lv_iadd hx hb dM_join_77 ?_
    refine lv_topi (fun x_5 ex_5 => ?_)
    have h := op_ks ex_5 h
    obtain ⟨hi_6, h⟩ := op_n h
    refine va_iald (D := D) hx hb hK hP 39 0 rfl rfl hi_6 dM_join_78 ?_
    refine lv_topi (fun x_7 ex_7 => ?_)
    have h := op_ks ex_7 h
    refine lv_goto (tgt := 85) hx hb dM_join_79 (by decide) ?_
    exact bM_join_85 C ih _ _ _ _ _ _ _ _ _ h hP hD hS (lv_sub hl [1, 2, 3, 4, 5, 6, 0] rfl)
set_option maxHeartbeats 4000000 in
set_option maxRecDepth 100000 in
theorem bM_join_29 {p : Program} {l : Launch} {e : Env} {s : State} {m : MethodId} {below : List Frame} {meth : Method} {c : Code} {A : Nat → Prop} {D : va_G} {K : Nat → ClassId} {h0 : Nat} {a0 : Nat → Nat} {AR : Array Value} (C : (dc_C p s m AR meth c cM_join 8 (Option.some Jvm.ClassFile.FieldType.int) yM_join ∧ cf_E D K A s s.heap ∧ ∀ q, s.heap.size ≤ q → A q)) {n : Nat} (ih : IhM_join p l e s m below meth c A D K h0 a0 AR n) (v1 : Int32) (v2 : Int32) (v3 : Int32) (v4 : Int32) (v5 : Int32) (o0 : cf_O) (r : Int32 × cf_O) (h : fM_join_29 (gM_join n) v1 v2 v3 v4 v5 o0 = some r) {H : Heap} {locs : List Loc} {ls : Array Slot} (hP : va_P D vwCl (wM K h0 a0 o0) H) (hD : va_D A (wM K h0 a0 o0)) (hS : va_S A s.heap H locs) (hl : lv_has ls 8 [(0, .ref h0), (1, .int v1), (2, .int v2), (3, .int v3), (4, .int v4), (5, .int v5)]) : W p l e ({ frames := 0, cells := 0, slots := 0, locals := 0 }) s m AR below meth c H locs 0 0 (MQ below (va_Qi (fun (x : Int32) (_ : Unit) => x = r.1) (fun (_ : Unit) t => cf_At D A (wM K h0 a0 r.2) t) A) AR s 0 0 A) (F0 m 29 ls []) := by
  obtain ⟨⟨hx, hb, hr, hts, hown, hlocks, hin, hml⟩, hE, hA⟩ := id C
  have hK := hE.k
  refine lv_iload_n hx hb dM_join_29 rfl (lv_at hl 3 rfl) ?_
  refine lv_aload_n hx hb dM_join_30 rfl (lv_at hl 0 rfl) ?_
  refine va_get (D := D) (ci := 12) (v := .ref (a0 59)) (C := RM) (T := TM) (N := 99) hx hb hts inM hown hK hP 0 rfl rfl 59 (by decide) (hts _ wv_2041) (fun _ h9 => h9) rfl dM_join_31 ?_
  refine lv_iload_n hx hb dM_join_34 rfl (lv_at hl 1 rfl) ?_
  obtain ⟨hi_1, h⟩ := op_n h
  refine va_iald (D := D) hx hb hK hP 40 0 rfl rfl hi_1 dM_join_35 ?_
  refine lv_topi (fun x_2 ex_2 => ?_)
  have h := op_ks ex_2 h
  refine lv_icmp_ge (tgt := 52) hx hb dM_join_36 (by decide) (fun c_3 => ?_) (fun c_3 => ?_)
  · have h := op_t c_3 h
    refine lv_sipush (v := 999) hx hb dM_join_52 (by decide) ?_
    exact bM_join_55 C ih _ _ _ _ _ _ _ _ h hP hD hS (lv_sub hl [0, 1, 2, 3, 4, 5] rfl)
  · have h := op_f c_3 h
    refine lv_aload_n hx hb dM_join_39 rfl (lv_at hl 0 rfl) ?_
    refine va_get (D := D) (ci := 12) (v := .ref (a0 58)) (C := RM) (T := TM) (N := 99) hx hb hts inM hown hK hP 0 rfl rfl 58 (by decide) (hts _ wv_2040) (fun _ h9 => h9) rfl dM_join_40 ?_
    refine lv_iconst (v := 5) hx hb dM_join_43 (by decide) ?_
    refine lv_iload_n hx hb dM_join_44 rfl (lv_at hl 1 rfl) ?_
    refine lv_imul hx hb dM_join_45 ?_
    refine lv_topi (fun x_4 ex_4 => ?_)
    have h := op_ks ex_4 h
    refine lv_iload_n hx hb dM_join_46 rfl (lv_at hl 3 rfl) ?_
    refine lv_iadd hx hb dM_join_47 ?_
    refine lv_topi (fun x_5 ex_5 => ?_)
    have h := op_ks ex_5 h
    obtain ⟨hi_6, h⟩ := op_n h
    refine va_iald (D := D) hx hb hK hP 39 0 rfl rfl hi_6 dM_join_48 ?_
    refine lv_topi (fun x_7 ex_7 => ?_)
    have h := op_ks ex_7 h
    refine lv_goto (tgt := 55) hx hb dM_join_49 (by decide) ?_
    exact bM_join_55 C ih _ _ _ _ _ _ _ _ h hP hD hS (lv_sub hl [0, 1, 2, 3, 4, 5] rfl)
set_option maxHeartbeats 4000000 in
set_option maxRecDepth 100000 in
theorem bM_join_8 {p : Program} {l : Launch} {e : Env} {s : State} {m : MethodId} {below : List Frame} {meth : Method} {c : Code} {A : Nat → Prop} {D : va_G} {K : Nat → ClassId} {h0 : Nat} {a0 : Nat → Nat} {AR : Array Value} (C : (dc_C p s m AR meth c cM_join 8 (Option.some Jvm.ClassFile.FieldType.int) yM_join ∧ cf_E D K A s s.heap ∧ ∀ q, s.heap.size ≤ q → A q)) {n : Nat} (ih : IhM_join p l e s m below meth c A D K h0 a0 AR n) (v1 : Int32) (v2 : Int32) (v3 : Int32) (v4 : Int32) (v5 : Int32) (o0 : cf_O) (r : Int32 × cf_O) (h : fM_join_8 (gM_join n) v1 v2 v3 v4 v5 o0 = some r) {H : Heap} {locs : List Loc} {ls : Array Slot} (hP : va_P D vwCl (wM K h0 a0 o0) H) (hD : va_D A (wM K h0 a0 o0)) (hS : va_S A s.heap H locs) (hl : lv_has ls 8 [(0, .ref h0), (1, .int v1), (2, .int v2), (3, .int v3), (4, .int v4), (5, .int v5)]) : W p l e ({ frames := 0, cells := 0, slots := 0, locals := 0 }) s m AR below meth c H locs 0 0 (MQ below (va_Qi (fun (x : Int32) (_ : Unit) => x = r.1) (fun (_ : Unit) t => cf_At D A (wM K h0 a0 r.2) t) A) AR s 0 0 A) (F0 m 8 ls []) := by
  obtain ⟨⟨hx, hb, hr, hts, hown, hlocks, hin, hml⟩, hE, hA⟩ := id C
  have hK := hE.k
  refine lv_iload_n hx hb dM_join_8 rfl (lv_at hl 3 rfl) ?_
  refine lv_aload_n hx hb dM_join_9 rfl (lv_at hl 0 rfl) ?_
  refine va_get (D := D) (ci := 12) (v := .ref (a0 59)) (C := RM) (T := TM) (N := 99) hx hb hts inM hown hK hP 0 rfl rfl 59 (by decide) (hts _ wv_2041) (fun _ h9 => h9) rfl dM_join_10 ?_
  refine lv_iload_n hx hb dM_join_13 rfl (lv_at hl 1 rfl) ?_
  obtain ⟨hi_1, h⟩ := op_n h
  refine va_iald (D := D) hx hb hK hP 40 0 rfl rfl hi_1 dM_join_14 ?_
  refine lv_topi (fun x_2 ex_2 => ?_)
  have h := op_ks ex_2 h
  refine lv_icmp_lt (tgt := 29) hx hb dM_join_15 (by decide) (fun c_3 => ?_) (fun c_3 => ?_)
  · have h := op_t c_3 h
    exact bM_join_29 C ih _ _ _ _ _ _ _ h hP hD hS (lv_sub hl [0, 1, 2, 3, 4, 5] rfl)
  · have h := op_f c_3 h
    refine lv_iload hx hb dM_join_18 (lv_at hl 4 rfl) ?_
    refine lv_aload_n hx hb dM_join_20 rfl (lv_at hl 0 rfl) ?_
    refine va_get (D := D) (ci := 12) (v := .ref (a0 59)) (C := RM) (T := TM) (N := 99) hx hb hts inM hown hK hP 0 rfl rfl 59 (by decide) (hts _ wv_2041) (fun _ h9 => h9) rfl dM_join_21 ?_
    refine lv_iload_n hx hb dM_join_24 rfl (lv_at hl 2 rfl) ?_
    obtain ⟨hi_4, h⟩ := op_n h
    refine va_iald (D := D) hx hb hK hP 40 0 rfl rfl hi_4 dM_join_25 ?_
    refine lv_topi (fun x_5 ex_5 => ?_)
    have h := op_ks ex_5 h
    refine lv_icmp_ge (tgt := 147) hx hb dM_join_26 (by decide) (fun c_6 => ?_) (fun c_6 => ?_)
    · have h := op_t c_6 h
      refine lv_iload hx hb dM_join_147 (lv_at hl 5 rfl) ?_
      obtain rfl := Option.some.inj h
      exact dc_iret hx hb hr hlocks rfl hP hD hS dM_join_149
    · have h := op_f c_6 h
      exact bM_join_29 C ih _ _ _ _ _ _ _ h hP hD hS (lv_sub hl [0, 1, 2, 3, 4, 5] rfl)
set_option maxHeartbeats 4000000 in
set_option maxRecDepth 100000 in
theorem bM_join_0 {p : Program} {l : Launch} {e : Env} {s : State} {m : MethodId} {below : List Frame} {meth : Method} {c : Code} {A : Nat → Prop} {D : va_G} {K : Nat → ClassId} {h0 : Nat} {a0 : Nat → Nat} {AR : Array Value} (C : (dc_C p s m AR meth c cM_join 8 (Option.some Jvm.ClassFile.FieldType.int) yM_join ∧ cf_E D K A s s.heap ∧ ∀ q, s.heap.size ≤ q → A q)) {n : Nat} (ih : IhM_join p l e s m below meth c A D K h0 a0 AR n) (v1 : Int32) (v2 : Int32) (o0 : cf_O) (r : Int32 × cf_O) (h : fM_join_0 (gM_join n) v1 v2 o0 = some r) {H : Heap} {locs : List Loc} {ls : Array Slot} (hP : va_P D vwCl (wM K h0 a0 o0) H) (hD : va_D A (wM K h0 a0 o0)) (hS : va_S A s.heap H locs) (hl : lv_has ls 8 [(0, .ref h0), (1, .int v1), (2, .int v2)]) : W p l e ({ frames := 0, cells := 0, slots := 0, locals := 0 }) s m AR below meth c H locs 0 0 (MQ below (va_Qi (fun (x : Int32) (_ : Unit) => x = r.1) (fun (_ : Unit) t => cf_At D A (wM K h0 a0 r.2) t) A) AR s 0 0 A) (F0 m 0 ls []) := by
  obtain ⟨⟨hx, hb, hr, hts, hown, hlocks, hin, hml⟩, hE, hA⟩ := id C
  have hK := hE.k
  refine lv_iconst (v := 0) hx hb dM_join_0 (by decide) ?_
  refine lv_istore_n (lv' := [(3, .int 0), (0, .ref h0), (1, .int v1), (2, .int v2)]) hx hb dM_join_1 rfl hl (by decide) rfl (fun ls hl => ?_)
  refine lv_iconst (v := 0) hx hb dM_join_2 (by decide) ?_
  refine lv_istore (lv' := [(4, .int 0), (3, .int 0), (0, .ref h0), (1, .int v1), (2, .int v2)]) hx hb dM_join_3 hl (by decide) rfl (fun ls hl => ?_)
  refine lv_iconst (v := 0) hx hb dM_join_5 (by decide) ?_
  refine lv_istore (lv' := [(5, .int 0), (4, .int 0), (3, .int 0), (0, .ref h0), (1, .int v1), (2, .int v2)]) hx hb dM_join_6 hl (by decide) rfl (fun ls hl => ?_)
  exact (ih) _ _ _ _ _ _ _ h hP hD hS (lv_sub hl [3, 4, 5, 2, 1, 0] rfl)
theorem iM_join {p : Program} {l : Launch} {e : Env} {s : State} {m : MethodId} {below : List Frame} {meth : Method} {c : Code} {A : Nat → Prop} {D : va_G} {K : Nat → ClassId} {h0 : Nat} {a0 : Nat → Nat} {AR : Array Value} (C : (dc_C p s m AR meth c cM_join 8 (Option.some Jvm.ClassFile.FieldType.int) yM_join ∧ cf_E D K A s s.heap ∧ ∀ q, s.heap.size ≤ q → A q)) : ∀ n, IhM_join p l e s m below meth c A D K h0 a0 AR n := by
  intro n
  induction n with
  | zero => exact (fun _ _ _ _ _ _ r h => by cases (show none = some r from h))
  | succ n ih => exact fun x0 x1 x2 x3 x4 x5 r h _ _ _ hP hD hS hl => bM_join_8 C ih x0 x1 x2 x3 x4 x5 r h hP hD hS hl
set_option maxRecDepth 100000 in
theorem mM_join (l : Launch) (D : va_G) (K : Nat → ClassId) (sz : Nat) (v1 : Int32) (v2 : Int32) (h0 : Nat) (a0 : Nat → Nat) (o0 : cf_O) (r : Int32 × cf_O) (h : fM_join v1 v2 o0 = some r) : Met l yM_join (Cond.code yM_join cM_join 8 (Option.some Jvm.ClassFile.FieldType.int) :: cfB) ({ frames := 0, cells := 0, slots := 0, locals := 0 }) (va_Pc [.ref h0, .int v1, .int v2] (cf_Pre D K sz (wM K h0 a0 o0))) (va_Qi (fun (x : Int32) (_ : Unit) => x = r.1) (fun (_ : Unit) t => cf_At D (va_A (wM K h0 a0 o0) sz) (wM K h0 a0 r.2) t) (va_A (wM K h0 a0 o0) sz)) 0 0 (va_A (wM K h0 a0 o0) sz) := by
  refine cf_ofW (y := yM_join) (As := [.ref h0, .int v1, .int v2]) (WS := wM K h0 a0 o0) (maxL := 8) (fun A => (va_Qi (fun (x : Int32) (_ : Unit) => x = r.1) (fun (_ : Unit) t => cf_At D A (wM K h0 a0 r.2) t) A)) (by decide) (Nat.le_of_ble_eq_true rfl) ?_
  intro p e s m below meth c A ls En hsz hA hP hD hE hS hl
  have C : (dc_C p s m (([.ref h0, .int v1, .int v2] : List Value).toArray) meth c cM_join 8 (Option.some Jvm.ClassFile.FieldType.int) yM_join ∧ cf_E D K A s s.heap ∧ ∀ q, s.heap.size ≤ q → A q) := ⟨En, hE, hA⟩
  exact bM_join_0 C (iM_join C cfFU) v1 v2 o0 r h hP hD hS hl
def IhM_isPart (p : Program) (l : Launch) (e : Env) (s : State) (m : MethodId) (below : List Frame) (meth : Method) (c : Code) (A : Nat → Prop) (D : va_G) (K : Nat → ClassId) (h0 : Nat) (a0 : Nat → Nat) (AR : Array Value) (n : Nat) : Prop := (∀ (v1 : Int32) (v2 : Int32) (v4 : Int32) (v5 : Int32) (o0 : cf_O) (r : Int32), gM_isPart n 0 v1 v2 v4 v5 o0 = some r → ∀ {H : Heap} {locs : List Loc} {ls : Array Slot}, (va_P D vwCl (wM K h0 a0 o0) H) → (va_D A (wM K h0 a0 o0)) → va_S A s.heap H locs → lv_has ls 6 [(0, .ref h0), (1, .int v1), (2, .int v2), (4, .int v4), (5, .int v5)] → W p l e ({ frames := 0, cells := 0, slots := 0, locals := 0 }) s m AR below meth c H locs 0 0 (MQ below (va_Qi (fun (x : Int32) (_ : Unit) => x = r) (fun (_ : Unit) t => cf_At D A (wM K h0 a0 o0) t) A) AR s 0 0 A) (F0 m 21 ls []))
set_option maxHeartbeats 4000000 in
set_option maxRecDepth 100000 in
theorem bM_isPart_92 {p : Program} {l : Launch} {e : Env} {s : State} {m : MethodId} {below : List Frame} {meth : Method} {c : Code} {A : Nat → Prop} {D : va_G} {K : Nat → ClassId} {h0 : Nat} {a0 : Nat → Nat} {AR : Array Value} (C : (dc_C p s m AR meth c cM_isPart 6 (Option.some Jvm.ClassFile.FieldType.boolean) yM_isPart ∧ cf_E D K A s s.heap ∧ ∀ q, s.heap.size ≤ q → A q)) {n : Nat} (ih : IhM_isPart p l e s m below meth c A D K h0 a0 AR n) (s0 : Int32) (o0 : cf_O) (r : Int32) (h : fM_isPart_92 (gM_isPart n) s0 o0 = some r) {H : Heap} {locs : List Loc} {ls : Array Slot} (hP : va_P D vwCl (wM K h0 a0 o0) H) (hD : va_D A (wM K h0 a0 o0)) (hS : va_S A s.heap H locs) (hl : lv_has ls 6 []) : W p l e ({ frames := 0, cells := 0, slots := 0, locals := 0 }) s m AR below meth c H locs 0 0 (MQ below (va_Qi (fun (x : Int32) (_ : Unit) => x = r) (fun (_ : Unit) t => cf_At D A (wM K h0 a0 o0) t) A) AR s 0 0 A) (F0 m 92 ls [.int s0]) := by
  obtain ⟨⟨hx, hb, hr, hts, hown, hlocks, hin, hml⟩, hE, hA⟩ := id C
  have hK := hE.k
  obtain ⟨hz_1, h⟩ := op_w h
  obtain rfl := Option.some.inj h
  exact dc_zret hx hb hr (op_z hz_1) hlocks rfl hP hD hS dM_isPart_92
set_option maxHeartbeats 4000000 in
set_option maxRecDepth 100000 in
theorem bM_isPart_76 {p : Program} {l : Launch} {e : Env} {s : State} {m : MethodId} {below : List Frame} {meth : Method} {c : Code} {A : Nat → Prop} {D : va_G} {K : Nat → ClassId} {h0 : Nat} {a0 : Nat → Nat} {AR : Array Value} (C : (dc_C p s m AR meth c cM_isPart 6 (Option.some Jvm.ClassFile.FieldType.boolean) yM_isPart ∧ cf_E D K A s s.heap ∧ ∀ q, s.heap.size ≤ q → A q)) {n : Nat} (ih : IhM_isPart p l e s m below meth c A D K h0 a0 AR n) (v1 : Int32) (v4 : Int32) (o0 : cf_O) (r : Int32) (h : fM_isPart_76 (gM_isPart n) v1 v4 o0 = some r) {H : Heap} {locs : List Loc} {ls : Array Slot} (hP : va_P D vwCl (wM K h0 a0 o0) H) (hD : va_D A (wM K h0 a0 o0)) (hS : va_S A s.heap H locs) (hl : lv_has ls 6 [(0, .ref h0), (1, .int v1), (4, .int v4)]) : W p l e ({ frames := 0, cells := 0, slots := 0, locals := 0 }) s m AR below meth c H locs 0 0 (MQ below (va_Qi (fun (x : Int32) (_ : Unit) => x = r) (fun (_ : Unit) t => cf_At D A (wM K h0 a0 o0) t) A) AR s 0 0 A) (F0 m 76 ls []) := by
  obtain ⟨⟨hx, hb, hr, hts, hown, hlocks, hin, hml⟩, hE, hA⟩ := id C
  have hK := hE.k
  refine lv_iload hx hb dM_isPart_76 (lv_at hl 2 rfl) ?_
  refine lv_aload_n hx hb dM_isPart_78 rfl (lv_at hl 0 rfl) ?_
  refine va_get (D := D) (ci := 12) (v := .ref (a0 59)) (C := RM) (T := TM) (N := 99) hx hb hts inM hown hK hP 0 rfl rfl 59 (by decide) (hts _ wv_2041) (fun _ h9 => h9) rfl dM_isPart_79 ?_
  refine lv_iload_n hx hb dM_isPart_82 rfl (lv_at hl 1 rfl) ?_
  obtain ⟨hi_1, h⟩ := op_n h
  refine va_iald (D := D) hx hb hK hP 40 0 rfl rfl hi_1 dM_isPart_83 ?_
  refine lv_topi (fun x_2 ex_2 => ?_)
  have h := op_ks ex_2 h
  refine lv_icmp_ne (tgt := 91) hx hb dM_isPart_84 (by decide) (fun c_3 => ?_) (fun c_3 => ?_)
  · have h := op_f c_3 h
    refine lv_iconst (v := 0) hx hb dM_isPart_91 (by decide) ?_
    exact bM_isPart_92 C ih _ _ _ h hP hD hS (lv_sub hl [] rfl)
  · have h := op_t c_3 h
    refine lv_iconst (v := 1) hx hb dM_isPart_87 (by decide) ?_
    refine lv_goto (tgt := 92) hx hb dM_isPart_88 (by decide) ?_
    exact bM_isPart_92 C ih _ _ _ h hP hD hS (lv_sub hl [] rfl)
set_option maxHeartbeats 4000000 in
set_option maxRecDepth 100000 in
theorem bM_isPart_68 {p : Program} {l : Launch} {e : Env} {s : State} {m : MethodId} {below : List Frame} {meth : Method} {c : Code} {A : Nat → Prop} {D : va_G} {K : Nat → ClassId} {h0 : Nat} {a0 : Nat → Nat} {AR : Array Value} (C : (dc_C p s m AR meth c cM_isPart 6 (Option.some Jvm.ClassFile.FieldType.boolean) yM_isPart ∧ cf_E D K A s s.heap ∧ ∀ q, s.heap.size ≤ q → A q)) {n : Nat} (ih : IhM_isPart p l e s m below meth c A D K h0 a0 AR n) (v1 : Int32) (v2 : Int32) (v5 : Int32) (s0 : Int32) (o0 : cf_O) (r : Int32) (h : fM_isPart_68 (gM_isPart n) v1 v2 v5 s0 o0 = some r) {H : Heap} {locs : List Loc} {ls : Array Slot} (hP : va_P D vwCl (wM K h0 a0 o0) H) (hD : va_D A (wM K h0 a0 o0)) (hS : va_S A s.heap H locs) (hl : lv_has ls 6 [(0, .ref h0), (1, .int v1), (2, .int v2), (5, .int v5)]) : W p l e ({ frames := 0, cells := 0, slots := 0, locals := 0 }) s m AR below meth c H locs 0 0 (MQ below (va_Qi (fun (x : Int32) (_ : Unit) => x = r) (fun (_ : Unit) t => cf_At D A (wM K h0 a0 o0) t) A) AR s 0 0 A) (F0 m 68 ls [.int s0]) := by
  obtain ⟨⟨hx, hb, hr, hts, hown, hlocks, hin, hml⟩, hE, hA⟩ := id C
  have hK := hE.k
  refine lv_istore (lv' := [(4, .int s0), (0, .ref h0), (1, .int v1), (2, .int v2), (5, .int v5)]) hx hb dM_isPart_68 hl (by decide) rfl (fun ls hl => ?_)
  obtain ⟨x_1, ex_1⟩ : ∃ y : Int32, y = v5 + 1 := ⟨_, rfl⟩
  refine lv_iinc (v := x_1) (lv' := [(5, .int x_1), (4, .int s0), (0, .ref h0), (1, .int v1), (2, .int v2)]) hx hb dM_isPart_70 hl (k := 4) rfl (by rw [ex_1]; rfl) (by decide) rfl (fun ls hl => ?_)
  have h := op_ks ex_1 h
  refine lv_goto (tgt := 21) hx hb dM_isPart_73 (by decide) ?_
  exact (ih) _ _ _ _ _ _ h hP hD hS (lv_sub hl [2, 3, 4, 1, 0] rfl)
set_option maxHeartbeats 4000000 in
set_option maxRecDepth 100000 in
theorem bM_isPart_21 {p : Program} {l : Launch} {e : Env} {s : State} {m : MethodId} {below : List Frame} {meth : Method} {c : Code} {A : Nat → Prop} {D : va_G} {K : Nat → ClassId} {h0 : Nat} {a0 : Nat → Nat} {AR : Array Value} (C : (dc_C p s m AR meth c cM_isPart 6 (Option.some Jvm.ClassFile.FieldType.boolean) yM_isPart ∧ cf_E D K A s s.heap ∧ ∀ q, s.heap.size ≤ q → A q)) {n : Nat} (ih : IhM_isPart p l e s m below meth c A D K h0 a0 AR n) (v1 : Int32) (v2 : Int32) (v4 : Int32) (v5 : Int32) (o0 : cf_O) (r : Int32) (h : fM_isPart_21 (gM_isPart n) v1 v2 v4 v5 o0 = some r) {H : Heap} {locs : List Loc} {ls : Array Slot} (hP : va_P D vwCl (wM K h0 a0 o0) H) (hD : va_D A (wM K h0 a0 o0)) (hS : va_S A s.heap H locs) (hl : lv_has ls 6 [(0, .ref h0), (1, .int v1), (2, .int v2), (4, .int v4), (5, .int v5)]) : W p l e ({ frames := 0, cells := 0, slots := 0, locals := 0 }) s m AR below meth c H locs 0 0 (MQ below (va_Qi (fun (x : Int32) (_ : Unit) => x = r) (fun (_ : Unit) t => cf_At D A (wM K h0 a0 o0) t) A) AR s 0 0 A) (F0 m 21 ls []) := by
  obtain ⟨⟨hx, hb, hr, hts, hown, hlocks, hin, hml⟩, hE, hA⟩ := id C
  have hK := hE.k
  refine lv_iload hx hb dM_isPart_21 (lv_at hl 4 rfl) ?_
  refine lv_iload_n hx hb dM_isPart_23 rfl (lv_at hl 2 rfl) ?_
  refine lv_icmp_ge (tgt := 76) hx hb dM_isPart_24 (by decide) (fun c_1 => ?_) (fun c_1 => ?_)
  · have h := op_t c_1 h
    exact bM_isPart_76 C ih _ _ _ _ h hP hD hS (lv_sub hl [0, 1, 3] rfl)
  · have h := op_f c_1 h
    refine lv_iload hx hb dM_isPart_27 (lv_at hl 3 rfl) ?_
    refine lv_aload_n hx hb dM_isPart_29 rfl (lv_at hl 0 rfl) ?_
    refine va_get (D := D) (ci := 12) (v := .ref (a0 59)) (C := RM) (T := TM) (N := 99) hx hb hts inM hown hK hP 0 rfl rfl 59 (by decide) (hts _ wv_2041) (fun _ h9 => h9) rfl dM_isPart_30 ?_
    refine lv_iload_n hx hb dM_isPart_33 rfl (lv_at hl 1 rfl) ?_
    obtain ⟨hi_2, h⟩ := op_n h
    refine va_iald (D := D) hx hb hK hP 40 0 rfl rfl hi_2 dM_isPart_34 ?_
    refine lv_topi (fun x_3 ex_3 => ?_)
    have h := op_ks ex_3 h
    refine lv_icmp_ge (tgt := 76) hx hb dM_isPart_35 (by decide) (fun c_4 => ?_) (fun c_4 => ?_)
    · have h := op_t c_4 h
      exact bM_isPart_76 C ih _ _ _ _ h hP hD hS (lv_sub hl [0, 1, 3] rfl)
    · have h := op_f c_4 h
      refine lv_aload_n hx hb dM_isPart_38 rfl (lv_at hl 0 rfl) ?_
      refine va_get (D := D) (ci := 12) (v := .ref (a0 61)) (C := RM) (T := TM) (N := 99) hx hb hts inM hown hK hP 0 rfl rfl 61 (by decide) (hts _ wv_2043) (fun _ h9 => h9) rfl dM_isPart_39 ?_
      refine lv_iload hx hb dM_isPart_42 (lv_at hl 4 rfl) ?_
      obtain ⟨hi_5, h⟩ := op_n h
      refine va_iald (D := D) hx hb hK hP 42 0 rfl rfl hi_5 dM_isPart_44 ?_
      refine lv_topi (fun x_6 ex_6 => ?_)
      have h := op_ks ex_6 h
      refine lv_aload_n hx hb dM_isPart_45 rfl (lv_at hl 0 rfl) ?_
      refine va_get (D := D) (ci := 12) (v := .ref (a0 58)) (C := RM) (T := TM) (N := 99) hx hb hts inM hown hK hP 0 rfl rfl 58 (by decide) (hts _ wv_2040) (fun _ h9 => h9) rfl dM_isPart_46 ?_
      refine lv_iconst (v := 5) hx hb dM_isPart_49 (by decide) ?_
      refine lv_iload_n hx hb dM_isPart_50 rfl (lv_at hl 1 rfl) ?_
      refine lv_imul hx hb dM_isPart_51 ?_
      refine lv_topi (fun x_7 ex_7 => ?_)
      have h := op_ks ex_7 h
      refine lv_iload hx hb dM_isPart_52 (lv_at hl 3 rfl) ?_
      refine lv_iadd hx hb dM_isPart_54 ?_
      refine lv_topi (fun x_8 ex_8 => ?_)
      have h := op_ks ex_8 h
      obtain ⟨hi_9, h⟩ := op_n h
      refine va_iald (D := D) hx hb hK hP 39 0 rfl rfl hi_9 dM_isPart_55 ?_
      refine lv_topi (fun x_10 ex_10 => ?_)
      have h := op_ks ex_10 h
      refine lv_icmp_ne (tgt := 66) hx hb dM_isPart_56 (by decide) (fun c_11 => ?_) (fun c_11 => ?_)
      · have h := op_f c_11 h
        refine lv_iload hx hb dM_isPart_66 (lv_at hl 3 rfl) ?_
        exact bM_isPart_68 C ih _ _ _ _ _ _ h hP hD hS (lv_sub hl [0, 1, 2, 4] rfl)
      · have h := op_t c_11 h
        refine lv_iload hx hb dM_isPart_59 (lv_at hl 3 rfl) ?_
        refine lv_iconst (v := 1) hx hb dM_isPart_61 (by decide) ?_
        refine lv_iadd hx hb dM_isPart_62 ?_
        refine lv_topi (fun x_12 ex_12 => ?_)
        have h := op_ks ex_12 h
        refine lv_goto (tgt := 68) hx hb dM_isPart_63 (by decide) ?_
        exact bM_isPart_68 C ih _ _ _ _ _ _ h hP hD hS (lv_sub hl [0, 1, 2, 4] rfl)
set_option maxHeartbeats 4000000 in
set_option maxRecDepth 100000 in
theorem bM_isPart_0 {p : Program} {l : Launch} {e : Env} {s : State} {m : MethodId} {below : List Frame} {meth : Method} {c : Code} {A : Nat → Prop} {D : va_G} {K : Nat → ClassId} {h0 : Nat} {a0 : Nat → Nat} {AR : Array Value} (C : (dc_C p s m AR meth c cM_isPart 6 (Option.some Jvm.ClassFile.FieldType.boolean) yM_isPart ∧ cf_E D K A s s.heap ∧ ∀ q, s.heap.size ≤ q → A q)) {n : Nat} (ih : IhM_isPart p l e s m below meth c A D K h0 a0 AR n) (v1 : Int32) (v2 : Int32) (v3 : Int32) (o0 : cf_O) (r : Int32) (h : fM_isPart_0 (gM_isPart n) v1 v2 v3 o0 = some r) {H : Heap} {locs : List Loc} {ls : Array Slot} (hP : va_P D vwCl (wM K h0 a0 o0) H) (hD : va_D A (wM K h0 a0 o0)) (hS : va_S A s.heap H locs) (hl : lv_has ls 6 [(0, .ref h0), (1, .int v1), (2, .int v2), (3, .int v3)]) : W p l e ({ frames := 0, cells := 0, slots := 0, locals := 0 }) s m AR below meth c H locs 0 0 (MQ below (va_Qi (fun (x : Int32) (_ : Unit) => x = r) (fun (_ : Unit) t => cf_At D A (wM K h0 a0 o0) t) A) AR s 0 0 A) (F0 m 0 ls []) := by
  obtain ⟨⟨hx, hb, hr, hts, hown, hlocks, hin, hml⟩, hE, hA⟩ := id C
  have hK := hE.k
  refine lv_aload_n hx hb dM_isPart_0 rfl (lv_at hl 0 rfl) ?_
  refine va_get (D := D) (ci := 12) (v := .ref (a0 60)) (C := RM) (T := TM) (N := 99) hx hb hts inM hown hK hP 0 rfl rfl 60 (by decide) (hts _ wv_2042) (fun _ h9 => h9) rfl dM_isPart_1 ?_
  refine lv_iload_n hx hb dM_isPart_4 rfl (lv_at hl 1 rfl) ?_
  obtain ⟨hi_1, h⟩ := op_n h
  refine va_iald (D := D) hx hb hK hP 41 0 rfl rfl hi_1 dM_isPart_5 ?_
  refine lv_topi (fun x_2 ex_2 => ?_)
  have h := op_ks ex_2 h
  refine lv_iload_n hx hb dM_isPart_6 rfl (lv_at hl 3 rfl) ?_
  refine lv_iconst (v := (-1)) hx hb dM_isPart_7 (by decide) ?_
  refine lv_ixor hx hb dM_isPart_8 ?_
  refine lv_topi (fun x_3 ex_3 => ?_)
  have h := op_ks ex_3 h
  refine lv_iand hx hb dM_isPart_9 ?_
  refine lv_topi (fun x_4 ex_4 => ?_)
  have h := op_ks ex_4 h
  refine lv_if_eq (tgt := 15) hx hb dM_isPart_10 (by decide) (fun c_5 => ?_) (fun c_5 => ?_)
  · have h := op_t c_5 h
    refine lv_iconst (v := 0) hx hb dM_isPart_15 (by decide) ?_
    refine lv_istore (lv' := [(4, .int 0), (0, .ref h0), (1, .int v1), (2, .int v2), (3, .int v3)]) hx hb dM_isPart_16 hl (by decide) rfl (fun ls hl => ?_)
    refine lv_iconst (v := 0) hx hb dM_isPart_18 (by decide) ?_
    refine lv_istore (lv' := [(5, .int 0), (4, .int 0), (0, .ref h0), (1, .int v1), (2, .int v2), (3, .int v3)]) hx hb dM_isPart_19 hl (by decide) rfl (fun ls hl => ?_)
    exact (ih) _ _ _ _ _ _ h hP hD hS (lv_sub hl [2, 3, 4, 1, 0] rfl)
  · have h := op_f c_5 h
    refine lv_iconst (v := 0) hx hb dM_isPart_13 (by decide) ?_
    obtain rfl := Option.some.inj h
    exact dc_zret hx hb hr rfl hlocks rfl hP hD hS dM_isPart_14
theorem iM_isPart {p : Program} {l : Launch} {e : Env} {s : State} {m : MethodId} {below : List Frame} {meth : Method} {c : Code} {A : Nat → Prop} {D : va_G} {K : Nat → ClassId} {h0 : Nat} {a0 : Nat → Nat} {AR : Array Value} (C : (dc_C p s m AR meth c cM_isPart 6 (Option.some Jvm.ClassFile.FieldType.boolean) yM_isPart ∧ cf_E D K A s s.heap ∧ ∀ q, s.heap.size ≤ q → A q)) : ∀ n, IhM_isPart p l e s m below meth c A D K h0 a0 AR n := by
  intro n
  induction n with
  | zero => exact (fun _ _ _ _ _ r h => by cases (show none = some r from h))
  | succ n ih => exact fun x0 x1 x2 x3 x4 r h _ _ _ hP hD hS hl => bM_isPart_21 C ih x0 x1 x2 x3 x4 r h hP hD hS hl
set_option maxRecDepth 100000 in
theorem mM_isPart (l : Launch) (D : va_G) (K : Nat → ClassId) (sz : Nat) (v1 : Int32) (v2 : Int32) (v3 : Int32) (h0 : Nat) (a0 : Nat → Nat) (o0 : cf_O) (r : Int32) (h : fM_isPart v1 v2 v3 o0 = some r) : Met l yM_isPart (Cond.code yM_isPart cM_isPart 6 (Option.some Jvm.ClassFile.FieldType.boolean) :: cfB) ({ frames := 0, cells := 0, slots := 0, locals := 0 }) (va_Pc [.ref h0, .int v1, .int v2, .int v3] (cf_Pre D K sz (wM K h0 a0 o0))) (va_Qi (fun (x : Int32) (_ : Unit) => x = r) (fun (_ : Unit) t => cf_At D (va_A (wM K h0 a0 o0) sz) (wM K h0 a0 o0) t) (va_A (wM K h0 a0 o0) sz)) 0 0 (va_A (wM K h0 a0 o0) sz) := by
  refine cf_ofW (y := yM_isPart) (As := [.ref h0, .int v1, .int v2, .int v3]) (WS := wM K h0 a0 o0) (maxL := 6) (fun A => (va_Qi (fun (x : Int32) (_ : Unit) => x = r) (fun (_ : Unit) t => cf_At D A (wM K h0 a0 o0) t) A)) (by decide) (Nat.le_of_ble_eq_true rfl) ?_
  intro p e s m below meth c A ls En hsz hA hP hD hE hS hl
  have C : (dc_C p s m (([.ref h0, .int v1, .int v2, .int v3] : List Value).toArray) meth c cM_isPart 6 (Option.some Jvm.ClassFile.FieldType.boolean) yM_isPart ∧ cf_E D K A s s.heap ∧ ∀ q, s.heap.size ≤ q → A q) := ⟨En, hE, hA⟩
  exact bM_isPart_0 C (iM_isPart C cfFU) v1 v2 v3 o0 r h hP hD hS hl
def IhM_keepCut (p : Program) (l : Launch) (e : Env) (s : State) (m : MethodId) (below : List Frame) (meth : Method) (c : Code) (A : Nat → Prop) (D : va_G) (K : Nat → ClassId) (h0 : Nat) (a0 : Nat → Nat) (AR : Array Value) (n : Nat) : Prop := (∀ (v2 : Int32) (v4 : Int32) (v5 : Int32) (o0 : cf_O) (r : cf_O), gM_keepCut n 0 v2 v4 v5 o0 = some r → ∀ {H : Heap} {locs : List Loc} {ls : Array Slot}, (va_P D vwCl (wM K h0 a0 o0) H) → (va_D A (wM K h0 a0 o0)) → va_S A s.heap H locs → lv_has ls 6 [(0, .ref h0), (2, .int v2), (4, .int v4), (5, .int v5)] → W p l e ({ frames := 0, cells := 0, slots := 0, locals := 0 }) s m AR below meth c H locs 0 0 (MQ below (va_Qv (fun (_ : Unit) => True) (fun (_ : Unit) t => cf_At D A (wM K h0 a0 r) t) A) AR s 0 0 A) (F0 m 43 ls []))
set_option maxHeartbeats 4000000 in
set_option maxRecDepth 100000 in
theorem bM_keepCut_43 {p : Program} {l : Launch} {e : Env} {s : State} {m : MethodId} {below : List Frame} {meth : Method} {c : Code} {A : Nat → Prop} {D : va_G} {K : Nat → ClassId} {h0 : Nat} {a0 : Nat → Nat} {AR : Array Value} (C : (dc_C p s m AR meth c cM_keepCut 6 (Option.none : Option Jvm.ClassFile.FieldType) yM_keepCut ∧ cf_E D K A s s.heap ∧ ∀ q, s.heap.size ≤ q → A q)) {n : Nat} (ih : IhM_keepCut p l e s m below meth c A D K h0 a0 AR n) (v2 : Int32) (v4 : Int32) (v5 : Int32) (o0 : cf_O) (r : cf_O) (h : fM_keepCut_43 (gM_keepCut n) v2 v4 v5 o0 = some r) {H : Heap} {locs : List Loc} {ls : Array Slot} (hP : va_P D vwCl (wM K h0 a0 o0) H) (hD : va_D A (wM K h0 a0 o0)) (hS : va_S A s.heap H locs) (hl : lv_has ls 6 [(0, .ref h0), (2, .int v2), (4, .int v4), (5, .int v5)]) : W p l e ({ frames := 0, cells := 0, slots := 0, locals := 0 }) s m AR below meth c H locs 0 0 (MQ below (va_Qv (fun (_ : Unit) => True) (fun (_ : Unit) t => cf_At D A (wM K h0 a0 r) t) A) AR s 0 0 A) (F0 m 43 ls []) := by
  obtain ⟨⟨hx, hb, hr, hts, hown, hlocks, hin, hml⟩, hE, hA⟩ := id C
  have hK := hE.k
  refine lv_iload hx hb dM_keepCut_43 (lv_at hl 3 rfl) ?_
  refine lv_iload_n hx hb dM_keepCut_45 rfl (lv_at hl 1 rfl) ?_
  refine lv_icmp_ge (tgt := 74) hx hb dM_keepCut_46 (by decide) (fun c_1 => ?_) (fun c_1 => ?_)
  · have h := op_t c_1 h
    obtain rfl := Option.some.inj h
    exact dc_vret hx hb hr hlocks rfl hP hD hS dM_keepCut_74
  · have h := op_f c_1 h
    refine lv_aload_n hx hb dM_keepCut_49 rfl (lv_at hl 0 rfl) ?_
    refine va_get (D := D) (ci := 12) (v := .ref (a0 58)) (C := RM) (T := TM) (N := 99) hx hb hts inM hown hK hP 0 rfl rfl 58 (by decide) (hts _ wv_2040) (fun _ h9 => h9) rfl dM_keepCut_50 ?_
    refine lv_iconst (v := 5) hx hb dM_keepCut_53 (by decide) ?_
    refine lv_iload hx hb dM_keepCut_54 (lv_at hl 2 rfl) ?_
    refine lv_imul hx hb dM_keepCut_56 ?_
    refine lv_topi (fun x_2 ex_2 => ?_)
    have h := op_ks ex_2 h
    refine lv_iload hx hb dM_keepCut_57 (lv_at hl 3 rfl) ?_
    refine lv_iadd hx hb dM_keepCut_59 ?_
    refine lv_topi (fun x_3 ex_3 => ?_)
    have h := op_ks ex_3 h
    refine lv_aload_n hx hb dM_keepCut_60 rfl (lv_at hl 0 rfl) ?_
    refine va_get (D := D) (ci := 12) (v := .ref (a0 61)) (C := RM) (T := TM) (N := 99) hx hb hts inM hown hK hP 0 rfl rfl 61 (by decide) (hts _ wv_2043) (fun _ h9 => h9) rfl dM_keepCut_61 ?_
    refine lv_iload hx hb dM_keepCut_64 (lv_at hl 3 rfl) ?_
    obtain ⟨hi_4, h⟩ := op_n h
    refine va_iald (D := D) hx hb hK hP 42 0 rfl rfl hi_4 dM_keepCut_66 ?_
    refine lv_topi (fun x_5 ex_5 => ?_)
    have h := op_ks ex_5 h
    obtain ⟨hi_6, h⟩ := op_n h
    refine va_iast (D := D) hx hb hK hP hD hS 39 0 rfl rfl hi_6 dM_keepCut_67 (fun H locs hP hD hS => ?_)
    have hP : va_P D vwCl (wM K h0 a0 (xp o0 58 x_3.toNatClampNeg x_5)) H := hP
    have hD : va_D A (wM K h0 a0 (xp o0 58 x_3.toNatClampNeg x_5)) := hD
    obtain ⟨o_7, eo_7, h⟩ := op_kx h
    rw [← eo_7] at hP hD
    obtain ⟨x_8, ex_8⟩ : ∃ y : Int32, y = v5 + 1 := ⟨_, rfl⟩
    refine lv_iinc (v := x_8) (lv' := [(5, .int x_8), (0, .ref h0), (2, .int v2), (4, .int v4)]) hx hb dM_keepCut_68 hl (k := 3) rfl (by rw [ex_8]; rfl) (by decide) rfl (fun ls hl => ?_)
    have h := op_ks ex_8 h
    refine lv_goto (tgt := 43) hx hb dM_keepCut_71 (by decide) ?_
    exact (ih) _ _ _ _ _ h hP hD hS (lv_sub hl [1, 2, 3, 0] rfl)
set_option maxHeartbeats 4000000 in
set_option maxRecDepth 100000 in
theorem bM_keepCut_0 {p : Program} {l : Launch} {e : Env} {s : State} {m : MethodId} {below : List Frame} {meth : Method} {c : Code} {A : Nat → Prop} {D : va_G} {K : Nat → ClassId} {h0 : Nat} {a0 : Nat → Nat} {AR : Array Value} (C : (dc_C p s m AR meth c cM_keepCut 6 (Option.none : Option Jvm.ClassFile.FieldType) yM_keepCut ∧ cf_E D K A s s.heap ∧ ∀ q, s.heap.size ≤ q → A q)) {n : Nat} (ih : IhM_keepCut p l e s m below meth c A D K h0 a0 AR n) (v1 : Int32) (v2 : Int32) (v3 : Int32) (o0 : cf_O) (r : cf_O) (h : fM_keepCut_0 (gM_keepCut n) v1 v2 v3 o0 = some r) {H : Heap} {locs : List Loc} {ls : Array Slot} (hP : va_P D vwCl (wM K h0 a0 o0) H) (hD : va_D A (wM K h0 a0 o0)) (hS : va_S A s.heap H locs) (hl : lv_has ls 6 [(0, .ref h0), (1, .int v1), (2, .int v2), (3, .int v3)]) : W p l e ({ frames := 0, cells := 0, slots := 0, locals := 0 }) s m AR below meth c H locs 0 0 (MQ below (va_Qv (fun (_ : Unit) => True) (fun (_ : Unit) t => cf_At D A (wM K h0 a0 r) t) A) AR s 0 0 A) (F0 m 0 ls []) := by
  obtain ⟨⟨hx, hb, hr, hts, hown, hlocks, hin, hml⟩, hE, hA⟩ := id C
  have hK := hE.k
  refine lv_sipush (v := 301) hx hb dM_keepCut_0 (by decide) ?_
  refine lv_iload_n hx hb dM_keepCut_3 rfl (lv_at hl 1 rfl) ?_
  refine lv_imul hx hb dM_keepCut_4 ?_
  refine lv_topi (fun x_1 ex_1 => ?_)
  have h := op_ks ex_1 h
  refine lv_aload_n hx hb dM_keepCut_5 rfl (lv_at hl 0 rfl) ?_
  refine va_get (D := D) (ci := 12) (v := .ref (a0 57)) (C := RM) (T := TM) (N := 99) hx hb hts inM hown hK hP 0 rfl rfl 57 (by decide) (hts _ wv_2039) (fun _ h9 => h9) rfl dM_keepCut_6 ?_
  refine lv_iload_n hx hb dM_keepCut_9 rfl (lv_at hl 1 rfl) ?_
  obtain ⟨hi_2, h⟩ := op_n h
  refine va_iald (D := D) hx hb hK hP 38 0 rfl rfl hi_2 dM_keepCut_10 ?_
  refine lv_topi (fun x_3 ex_3 => ?_)
  have h := op_ks ex_3 h
  refine lv_iadd hx hb dM_keepCut_11 ?_
  refine lv_topi (fun x_4 ex_4 => ?_)
  have h := op_ks ex_4 h
  refine lv_istore (lv' := [(4, .int x_4), (0, .ref h0), (1, .int v1), (2, .int v2), (3, .int v3)]) hx hb dM_keepCut_12 hl (by decide) rfl (fun ls hl => ?_)
  refine lv_aload_n hx hb dM_keepCut_14 rfl (lv_at hl 1 rfl) ?_
  refine va_get (D := D) (ci := 12) (v := .ref (a0 57)) (C := RM) (T := TM) (N := 99) hx hb hts inM hown hK hP 0 rfl rfl 57 (by decide) (hts _ wv_2039) (fun _ h9 => h9) rfl dM_keepCut_15 ?_
  refine lv_iload_n hx hb dM_keepCut_18 rfl (lv_at hl 2 rfl) ?_
  refine lv_dup2_11 hx hb dM_keepCut_19 rfl rfl ?_
  obtain ⟨hi_5, h⟩ := op_n h
  refine va_iald (D := D) hx hb hK hP 38 0 rfl rfl hi_5 dM_keepCut_20 ?_
  refine lv_topi (fun x_6 ex_6 => ?_)
  have h := op_ks ex_6 h
  refine lv_iconst (v := 1) hx hb dM_keepCut_21 (by decide) ?_
  refine lv_iadd hx hb dM_keepCut_22 ?_
  refine lv_topi (fun x_7 ex_7 => ?_)
  have h := op_ks ex_7 h
  obtain ⟨hi_8, h⟩ := op_n h
  refine va_iast (D := D) hx hb hK hP hD hS 38 0 rfl rfl hi_8 dM_keepCut_23 (fun H locs hP hD hS => ?_)
  have hP : va_P D vwCl (wM K h0 a0 (xp o0 57 v1.toNatClampNeg x_7)) H := hP
  have hD : va_D A (wM K h0 a0 (xp o0 57 v1.toNatClampNeg x_7)) := hD
  obtain ⟨o_9, eo_9, h⟩ := op_kx h
  rw [← eo_9] at hP hD
  refine lv_aload_n hx hb dM_keepCut_24 rfl (lv_at hl 1 rfl) ?_
  refine va_get (D := D) (ci := 12) (v := .ref (a0 59)) (C := RM) (T := TM) (N := 99) hx hb hts inM hown hK hP 0 rfl rfl 59 (by decide) (hts _ wv_2041) (fun _ h9 => h9) rfl dM_keepCut_25 ?_
  refine lv_iload hx hb dM_keepCut_28 (lv_at hl 0 rfl) ?_
  refine lv_iload_n hx hb dM_keepCut_30 rfl (lv_at hl 3 rfl) ?_
  obtain ⟨hi_10, h⟩ := op_n h
  refine va_iast (D := D) hx hb hK hP hD hS 40 0 rfl rfl hi_10 dM_keepCut_31 (fun H locs hP hD hS => ?_)
  have hP : va_P D vwCl (wM K h0 a0 (xp o_9 59 x_4.toNatClampNeg v2)) H := hP
  have hD : va_D A (wM K h0 a0 (xp o_9 59 x_4.toNatClampNeg v2)) := hD
  obtain ⟨o_11, eo_11, h⟩ := op_kx h
  rw [← eo_11] at hP hD
  refine lv_aload_n hx hb dM_keepCut_32 rfl (lv_at hl 1 rfl) ?_
  refine va_get (D := D) (ci := 12) (v := .ref (a0 60)) (C := RM) (T := TM) (N := 99) hx hb hts inM hown hK hP 0 rfl rfl 60 (by decide) (hts _ wv_2042) (fun _ h9 => h9) rfl dM_keepCut_33 ?_
  refine lv_iload hx hb dM_keepCut_36 (lv_at hl 0 rfl) ?_
  refine lv_iload_n hx hb dM_keepCut_38 rfl (lv_at hl 4 rfl) ?_
  obtain ⟨hi_12, h⟩ := op_n h
  refine va_iast (D := D) hx hb hK hP hD hS 41 0 rfl rfl hi_12 dM_keepCut_39 (fun H locs hP hD hS => ?_)
  have hP : va_P D vwCl (wM K h0 a0 (xp o_11 60 x_4.toNatClampNeg v3)) H := hP
  have hD : va_D A (wM K h0 a0 (xp o_11 60 x_4.toNatClampNeg v3)) := hD
  obtain ⟨o_13, eo_13, h⟩ := op_kx h
  rw [← eo_13] at hP hD
  refine lv_iconst (v := 0) hx hb dM_keepCut_40 (by decide) ?_
  refine lv_istore (lv' := [(5, .int 0), (4, .int x_4), (0, .ref h0), (1, .int v1), (2, .int v2), (3, .int v3)]) hx hb dM_keepCut_41 hl (by decide) rfl (fun ls hl => ?_)
  exact (ih) _ _ _ _ _ h hP hD hS (lv_sub hl [2, 4, 1, 0] rfl)
theorem iM_keepCut {p : Program} {l : Launch} {e : Env} {s : State} {m : MethodId} {below : List Frame} {meth : Method} {c : Code} {A : Nat → Prop} {D : va_G} {K : Nat → ClassId} {h0 : Nat} {a0 : Nat → Nat} {AR : Array Value} (C : (dc_C p s m AR meth c cM_keepCut 6 (Option.none : Option Jvm.ClassFile.FieldType) yM_keepCut ∧ cf_E D K A s s.heap ∧ ∀ q, s.heap.size ≤ q → A q)) : ∀ n, IhM_keepCut p l e s m below meth c A D K h0 a0 AR n := by
  intro n
  induction n with
  | zero => exact (fun _ _ _ _ r h => by cases (show none = some r from h))
  | succ n ih => exact fun x0 x1 x2 x3 r h _ _ _ hP hD hS hl => bM_keepCut_43 C ih x0 x1 x2 x3 r h hP hD hS hl
set_option maxRecDepth 100000 in
theorem mM_keepCut (l : Launch) (D : va_G) (K : Nat → ClassId) (sz : Nat) (v1 : Int32) (v2 : Int32) (v3 : Int32) (h0 : Nat) (a0 : Nat → Nat) (o0 : cf_O) (r : cf_O) (h : fM_keepCut v1 v2 v3 o0 = some r) : Met l yM_keepCut (Cond.code yM_keepCut cM_keepCut 6 (Option.none : Option Jvm.ClassFile.FieldType) :: cfB) ({ frames := 0, cells := 0, slots := 0, locals := 0 }) (va_Pc [.ref h0, .int v1, .int v2, .int v3] (cf_Pre D K sz (wM K h0 a0 o0))) (va_Qv (fun (_ : Unit) => True) (fun (_ : Unit) t => cf_At D (va_A (wM K h0 a0 o0) sz) (wM K h0 a0 r) t) (va_A (wM K h0 a0 o0) sz)) 0 0 (va_A (wM K h0 a0 o0) sz) := by
  refine cf_ofW (y := yM_keepCut) (As := [.ref h0, .int v1, .int v2, .int v3]) (WS := wM K h0 a0 o0) (maxL := 6) (fun A => (va_Qv (fun (_ : Unit) => True) (fun (_ : Unit) t => cf_At D A (wM K h0 a0 r) t) A)) (by decide) (Nat.le_of_ble_eq_true rfl) ?_
  intro p e s m below meth c A ls En hsz hA hP hD hE hS hl
  have C : (dc_C p s m (([.ref h0, .int v1, .int v2, .int v3] : List Value).toArray) meth c cM_keepCut 6 (Option.none : Option Jvm.ClassFile.FieldType) yM_keepCut ∧ cf_E D K A s s.heap ∧ ∀ q, s.heap.size ≤ q → A q) := ⟨En, hE, hA⟩
  exact bM_keepCut_0 C (iM_keepCut C cfFU) v1 v2 v3 o0 r h hP hD hS hl
def IhM_tryCut (p : Program) (l : Launch) (e : Env) (s : State) (m : MethodId) (below : List Frame) (meth : Method) (c : Code) (A : Nat → Prop) (D : va_G) (K : Nat → ClassId) (h0 : Nat) (a0 : Nat → Nat) (AR : Array Value) (n : Nat) : Prop := (∀ (v1 : Int32) (v2 : Int32) (v3 : Int32) (v4 : Int32) (o0 : cf_O) (r : cf_O), gM_tryCut n 0 v1 v2 v3 v4 o0 = some r → ∀ {H : Heap} {locs : List Loc} {ls : Array Slot}, (va_P D vwCl (wM K h0 a0 o0) H) → (va_D A (wM K h0 a0 o0)) → va_S A s.heap H locs → lv_has ls 5 [(0, .ref h0), (1, .int v1), (2, .int v2), (3, .int v3), (4, .int v4)] → W p l e ({ frames := 1, cells := 0, slots := 0, locals := 25 }) s m AR below meth c H locs 0 0 (MQ below (va_Qv (fun (_ : Unit) => True) (fun (_ : Unit) t => cf_At D A (wM K h0 a0 r) t) A) AR s 0 0 A) (F0 m 5 ls [])) ∧ (∀ (v1 : Int32) (v2 : Int32) (v3 : Int32) (v4 : Int32) (o0 : cf_O) (r : cf_O), gM_tryCut n 1 v1 v2 v3 v4 o0 = some r → ∀ {H : Heap} {locs : List Loc} {ls : Array Slot}, (va_P D vwCl (wM K h0 a0 o0) H) → (va_D A (wM K h0 a0 o0)) → va_S A s.heap H locs → lv_has ls 5 [(0, .ref h0), (1, .int v1), (2, .int v2), (3, .int v3), (4, .int v4)] → W p l e ({ frames := 1, cells := 0, slots := 0, locals := 25 }) s m AR below meth c H locs 0 0 (MQ below (va_Qv (fun (_ : Unit) => True) (fun (_ : Unit) t => cf_At D A (wM K h0 a0 r) t) A) AR s 0 0 A) (F0 m 39 ls []))
set_option maxHeartbeats 4000000 in
set_option maxRecDepth 100000 in
theorem bM_tryCut_39 {p : Program} {l : Launch} {e : Env} {s : State} {m : MethodId} {below : List Frame} {meth : Method} {c : Code} {A : Nat → Prop} {D : va_G} {K : Nat → ClassId} {h0 : Nat} {a0 : Nat → Nat} {AR : Array Value} (C : (dc_C p s m AR meth c cM_tryCut 5 (Option.none : Option Jvm.ClassFile.FieldType) yM_tryCut ∧ cf_E D K A s s.heap ∧ ∀ q, s.heap.size ≤ q → A q)) {n : Nat} (ih : IhM_tryCut p l e s m below meth c A D K h0 a0 AR n) (v1 : Int32) (v2 : Int32) (v3 : Int32) (v4 : Int32) (o0 : cf_O) (r : cf_O) (h : fM_tryCut_39 (gM_tryCut n) v1 v2 v3 v4 o0 = some r) {H : Heap} {locs : List Loc} {ls : Array Slot} (hP : va_P D vwCl (wM K h0 a0 o0) H) (hD : va_D A (wM K h0 a0 o0)) (hS : va_S A s.heap H locs) (hl : lv_has ls 5 [(0, .ref h0), (1, .int v1), (2, .int v2), (3, .int v3), (4, .int v4)]) : W p l e ({ frames := 1, cells := 0, slots := 0, locals := 25 }) s m AR below meth c H locs 0 0 (MQ below (va_Qv (fun (_ : Unit) => True) (fun (_ : Unit) t => cf_At D A (wM K h0 a0 r) t) A) AR s 0 0 A) (F0 m 39 ls []) := by
  obtain ⟨⟨hx, hb, hr, hts, hown, hlocks, hin, hml⟩, hE, hA⟩ := id C
  have hK := hE.k
  refine lv_iload hx hb dM_tryCut_39 (lv_at hl 4 rfl) ?_
  refine lv_sipush (v := 301) hx hb dM_tryCut_41 (by decide) ?_
  refine lv_iload_n hx hb dM_tryCut_44 rfl (lv_at hl 1 rfl) ?_
  refine lv_imul hx hb dM_tryCut_45 ?_
  refine lv_topi (fun x_1 ex_1 => ?_)
  have h := op_ks ex_1 h
  refine lv_aload_n hx hb dM_tryCut_46 rfl (lv_at hl 0 rfl) ?_
  refine va_get (D := D) (ci := 12) (v := .ref (a0 57)) (C := RM) (T := TM) (N := 99) hx hb hts inM hown hK hP 0 rfl rfl 57 (by decide) (hts _ wv_2039) (fun _ h9 => h9) rfl dM_tryCut_47 ?_
  refine lv_iload_n hx hb dM_tryCut_50 rfl (lv_at hl 1 rfl) ?_
  obtain ⟨hi_2, h⟩ := op_n h
  refine va_iald (D := D) hx hb hK hP 38 0 rfl rfl hi_2 dM_tryCut_51 ?_
  refine lv_topi (fun x_3 ex_3 => ?_)
  have h := op_ks ex_3 h
  refine lv_iadd hx hb dM_tryCut_52 ?_
  refine lv_topi (fun x_4 ex_4 => ?_)
  have h := op_ks ex_4 h
  refine lv_icmp_ge (tgt := 74) hx hb dM_tryCut_53 (by decide) (fun c_5 => ?_) (fun c_5 => ?_)
  · have h := op_t c_5 h
    refine lv_aload_n hx hb dM_tryCut_74 rfl (lv_at hl 0 rfl) ?_
    refine va_get (D := D) (ci := 12) (v := .ref (a0 57)) (C := RM) (T := TM) (N := 99) hx hb hts inM hown hK hP 0 rfl rfl 57 (by decide) (hts _ wv_2039) (fun _ h9 => h9) rfl dM_tryCut_75 ?_
    refine lv_iload_n hx hb dM_tryCut_78 rfl (lv_at hl 1 rfl) ?_
    obtain ⟨hi_6, h⟩ := op_n h
    refine va_iald (D := D) hx hb hK hP 38 0 rfl rfl hi_6 dM_tryCut_79 ?_
    refine lv_topi (fun x_7 ex_7 => ?_)
    have h := op_ks ex_7 h
    refine lv_sipush (v := 300) hx hb dM_tryCut_80 (by decide) ?_
    refine lv_icmp_ne (tgt := 92) hx hb dM_tryCut_83 (by decide) (fun c_8 => ?_) (fun c_8 => ?_)
    · have h := op_f c_8 h
      refine lv_aload_n hx hb dM_tryCut_92 rfl (lv_at hl 0 rfl) ?_
      refine lv_iload_n hx hb dM_tryCut_93 rfl (lv_at hl 1 rfl) ?_
      refine lv_iload_n hx hb dM_tryCut_94 rfl (lv_at hl 2 rfl) ?_
      refine lv_iload_n hx hb dM_tryCut_95 rfl (lv_at hl 3 rfl) ?_
      obtain ⟨q_9, hq_9, h⟩ := op_b h
      refine dc_callv (va_runV (As := [.int v1, .int v2, .int v3]) (rest := []) ⟨hx, hb, hml, hown, hts⟩ (mM_keepCut l D K _ v1 v2 v3 h0 a0 o0 _ hq_9) (cwV 3 hts (cf_GV wv_2502 wv_2504 wv_105 wv_173 wv_2505) rfl rfl rfl (by decide +kernel) ⟨Nat.le_of_ble_eq_true rfl, Nat.le_of_ble_eq_true rfl⟩) (dc_preV hE hP hD hS hA rfl 0 rfl) rfl rfl hl.1 rfl (lv_room (Nat.le_of_ble_eq_true rfl)) dM_tryCut_96 ⟨Nat.le_of_ble_eq_true rfl, Nat.le_of_ble_eq_true rfl⟩) hP hD hS hA (fun H locs hP hD hS => ?_)
      obtain rfl := Option.some.inj h
      exact dc_vret hx hb hr hlocks rfl hP hD hS dM_tryCut_99
    · have h := op_t c_8 h
      refine lv_aload_n hx hb dM_tryCut_86 rfl (lv_at hl 0 rfl) ?_
      refine lv_iconst (v := 1) hx hb dM_tryCut_87 (by decide) ?_
      refine va_put (D := D) (ci := 12) (v := .int 1) (ty := .boolean) (C := RM) (T := TM) (N := 99) hx hb hts inM tyM tyokM nmM hown hK hP hD hS 0 rfl rfl 36 (by decide) (hts _ wv_2018) (fun _ h9 => h9) rfl (by decide +kernel) rfl rfl (Nat.le_of_ble_eq_true rfl) dM_tryCut_88 (fun H locs hP hD hS => ?_)
      have hP : va_P D vwCl (wM K h0 a0 (fp o0 36 1)) H := hP
      have hD : va_D A (wM K h0 a0 (fp o0 36 1)) := hD
      obtain ⟨o_11, eo_11, h⟩ := op_kx h
      rw [← eo_11] at hP hD
      obtain rfl := Option.some.inj h
      exact dc_vret hx hb hr hlocks rfl hP hD hS dM_tryCut_91
  · have h := op_f c_5 h
    refine lv_aload_n hx hb dM_tryCut_56 rfl (lv_at hl 0 rfl) ?_
    refine lv_iload hx hb dM_tryCut_57 (lv_at hl 4 rfl) ?_
    refine lv_iload_n hx hb dM_tryCut_59 rfl (lv_at hl 2 rfl) ?_
    refine lv_iload_n hx hb dM_tryCut_60 rfl (lv_at hl 3 rfl) ?_
    obtain ⟨q_12, hq_12, h⟩ := op_b h
    refine dc_calli (va_runV (As := [.int v4, .int v2, .int v3]) (rest := []) ⟨hx, hb, hml, hown, hts⟩ (mM_isPart l D K _ v4 v2 v3 h0 a0 o0 _ hq_12) (cwV 3 hts (cf_GV wv_2498 wv_2500 wv_104 wv_173 wv_2501) rfl rfl rfl (by decide +kernel) ⟨Nat.le_of_ble_eq_true rfl, Nat.le_of_ble_eq_true rfl⟩) (dc_preV hE hP hD hS hA rfl 0 rfl) rfl rfl hl.1 rfl (lv_room (Nat.le_of_ble_eq_true rfl)) dM_tryCut_61 ⟨Nat.le_of_ble_eq_true rfl, Nat.le_of_ble_eq_true rfl⟩) hP hD hS hA (fun r_13 H locs hw_14 hP hD hS => ?_)
    subst r_13
    refine lv_if_eq (tgt := 68) hx hb dM_tryCut_64 (by decide) (fun c_15 => ?_) (fun c_15 => ?_)
    · have h := op_t c_15 h
      obtain ⟨x_16, ex_16⟩ : ∃ y : Int32, y = v4 + 1 := ⟨_, rfl⟩
      refine lv_iinc (v := x_16) (lv' := [(4, .int x_16), (0, .ref h0), (1, .int v1), (2, .int v2), (3, .int v3)]) hx hb dM_tryCut_68 hl (k := 4) rfl (by rw [ex_16]; rfl) (by decide) rfl (fun ls hl => ?_)
      have h := op_ks ex_16 h
      refine lv_goto (tgt := 39) hx hb dM_tryCut_71 (by decide) ?_
      exact (ih.2) _ _ _ _ _ _ h hP hD hS (lv_sub hl [1, 2, 3, 4, 0] rfl)
    · have h := op_f c_15 h
      obtain rfl := Option.some.inj h
      exact dc_vret hx hb hr hlocks rfl hP hD hS dM_tryCut_67
set_option maxHeartbeats 4000000 in
set_option maxRecDepth 100000 in
theorem bM_tryCut_5 {p : Program} {l : Launch} {e : Env} {s : State} {m : MethodId} {below : List Frame} {meth : Method} {c : Code} {A : Nat → Prop} {D : va_G} {K : Nat → ClassId} {h0 : Nat} {a0 : Nat → Nat} {AR : Array Value} (C : (dc_C p s m AR meth c cM_tryCut 5 (Option.none : Option Jvm.ClassFile.FieldType) yM_tryCut ∧ cf_E D K A s s.heap ∧ ∀ q, s.heap.size ≤ q → A q)) {n : Nat} (ih : IhM_tryCut p l e s m below meth c A D K h0 a0 AR n) (v1 : Int32) (v2 : Int32) (v3 : Int32) (v4 : Int32) (o0 : cf_O) (r : cf_O) (h : fM_tryCut_5 (gM_tryCut n) v1 v2 v3 v4 o0 = some r) {H : Heap} {locs : List Loc} {ls : Array Slot} (hP : va_P D vwCl (wM K h0 a0 o0) H) (hD : va_D A (wM K h0 a0 o0)) (hS : va_S A s.heap H locs) (hl : lv_has ls 5 [(0, .ref h0), (1, .int v1), (2, .int v2), (3, .int v3), (4, .int v4)]) : W p l e ({ frames := 1, cells := 0, slots := 0, locals := 25 }) s m AR below meth c H locs 0 0 (MQ below (va_Qv (fun (_ : Unit) => True) (fun (_ : Unit) t => cf_At D A (wM K h0 a0 r) t) A) AR s 0 0 A) (F0 m 5 ls []) := by
  obtain ⟨⟨hx, hb, hr, hts, hown, hlocks, hin, hml⟩, hE, hA⟩ := id C
  have hK := hE.k
  refine lv_iload hx hb dM_tryCut_5 (lv_at hl 4 rfl) ?_
  refine lv_iload_n hx hb dM_tryCut_7 rfl (lv_at hl 2 rfl) ?_
  refine lv_icmp_ge (tgt := 32) hx hb dM_tryCut_8 (by decide) (fun c_1 => ?_) (fun c_1 => ?_)
  · have h := op_t c_1 h
    refine lv_sipush (v := 301) hx hb dM_tryCut_32 (by decide) ?_
    refine lv_iload_n hx hb dM_tryCut_35 rfl (lv_at hl 1 rfl) ?_
    refine lv_imul hx hb dM_tryCut_36 ?_
    refine lv_topi (fun x_2 ex_2 => ?_)
    have h := op_ks ex_2 h
    refine lv_istore (lv' := [(4, .int x_2), (0, .ref h0), (1, .int v1), (2, .int v2), (3, .int v3)]) hx hb dM_tryCut_37 hl (by decide) rfl (fun ls hl => ?_)
    exact (ih.2) _ _ _ _ _ _ h hP hD hS (lv_sub hl [1, 2, 3, 4, 0] rfl)
  · have h := op_f c_1 h
    refine lv_iload_n hx hb dM_tryCut_11 rfl (lv_at hl 3 rfl) ?_
    refine lv_iconst (v := 1) hx hb dM_tryCut_12 (by decide) ?_
    refine lv_aload_n hx hb dM_tryCut_13 rfl (lv_at hl 0 rfl) ?_
    refine va_get (D := D) (ci := 12) (v := .ref (a0 61)) (C := RM) (T := TM) (N := 99) hx hb hts inM hown hK hP 0 rfl rfl 61 (by decide) (hts _ wv_2043) (fun _ h9 => h9) rfl dM_tryCut_14 ?_
    refine lv_iload hx hb dM_tryCut_17 (lv_at hl 4 rfl) ?_
    obtain ⟨hi_3, h⟩ := op_n h
    refine va_iald (D := D) hx hb hK hP 42 0 rfl rfl hi_3 dM_tryCut_19 ?_
    refine lv_topi (fun x_4 ex_4 => ?_)
    have h := op_ks ex_4 h
    refine lv_bipush (v := 32) hx hb dM_tryCut_20 (by decide) ?_
    refine lv_irem hx hb dM_tryCut_22 (by decide) ?_
    refine lv_topi (fun x_5 ex_5 => ?_)
    have h := op_ks ex_5 h
    refine lv_ishl hx hb dM_tryCut_23 ?_
    refine lv_topi (fun x_6 ex_6 => ?_)
    have h := op_ks ex_6 h
    refine lv_ior hx hb dM_tryCut_24 ?_
    refine lv_topi (fun x_7 ex_7 => ?_)
    have h := op_ks ex_7 h
    refine lv_istore_n (lv' := [(3, .int x_7), (0, .ref h0), (1, .int v1), (2, .int v2), (4, .int v4)]) hx hb dM_tryCut_25 rfl hl (by decide) rfl (fun ls hl => ?_)
    obtain ⟨x_8, ex_8⟩ : ∃ y : Int32, y = v4 + 1 := ⟨_, rfl⟩
    refine lv_iinc (v := x_8) (lv' := [(4, .int x_8), (3, .int x_7), (0, .ref h0), (1, .int v1), (2, .int v2)]) hx hb dM_tryCut_26 hl (k := 4) rfl (by rw [ex_8]; rfl) (by decide) rfl (fun ls hl => ?_)
    have h := op_ks ex_8 h
    refine lv_goto (tgt := 5) hx hb dM_tryCut_29 (by decide) ?_
    exact (ih.1) _ _ _ _ _ _ h hP hD hS (lv_sub hl [2, 3, 4, 1, 0] rfl)
set_option maxHeartbeats 4000000 in
set_option maxRecDepth 100000 in
theorem bM_tryCut_0 {p : Program} {l : Launch} {e : Env} {s : State} {m : MethodId} {below : List Frame} {meth : Method} {c : Code} {A : Nat → Prop} {D : va_G} {K : Nat → ClassId} {h0 : Nat} {a0 : Nat → Nat} {AR : Array Value} (C : (dc_C p s m AR meth c cM_tryCut 5 (Option.none : Option Jvm.ClassFile.FieldType) yM_tryCut ∧ cf_E D K A s s.heap ∧ ∀ q, s.heap.size ≤ q → A q)) {n : Nat} (ih : IhM_tryCut p l e s m below meth c A D K h0 a0 AR n) (v1 : Int32) (v2 : Int32) (o0 : cf_O) (r : cf_O) (h : fM_tryCut_0 (gM_tryCut n) v1 v2 o0 = some r) {H : Heap} {locs : List Loc} {ls : Array Slot} (hP : va_P D vwCl (wM K h0 a0 o0) H) (hD : va_D A (wM K h0 a0 o0)) (hS : va_S A s.heap H locs) (hl : lv_has ls 5 [(0, .ref h0), (1, .int v1), (2, .int v2)]) : W p l e ({ frames := 1, cells := 0, slots := 0, locals := 25 }) s m AR below meth c H locs 0 0 (MQ below (va_Qv (fun (_ : Unit) => True) (fun (_ : Unit) t => cf_At D A (wM K h0 a0 r) t) A) AR s 0 0 A) (F0 m 0 ls []) := by
  obtain ⟨⟨hx, hb, hr, hts, hown, hlocks, hin, hml⟩, hE, hA⟩ := id C
  have hK := hE.k
  refine lv_iconst (v := 0) hx hb dM_tryCut_0 (by decide) ?_
  refine lv_istore_n (lv' := [(3, .int 0), (0, .ref h0), (1, .int v1), (2, .int v2)]) hx hb dM_tryCut_1 rfl hl (by decide) rfl (fun ls hl => ?_)
  refine lv_iconst (v := 0) hx hb dM_tryCut_2 (by decide) ?_
  refine lv_istore (lv' := [(4, .int 0), (3, .int 0), (0, .ref h0), (1, .int v1), (2, .int v2)]) hx hb dM_tryCut_3 hl (by decide) rfl (fun ls hl => ?_)
  exact (ih.1) _ _ _ _ _ _ h hP hD hS (lv_sub hl [2, 3, 4, 1, 0] rfl)
theorem iM_tryCut {p : Program} {l : Launch} {e : Env} {s : State} {m : MethodId} {below : List Frame} {meth : Method} {c : Code} {A : Nat → Prop} {D : va_G} {K : Nat → ClassId} {h0 : Nat} {a0 : Nat → Nat} {AR : Array Value} (C : (dc_C p s m AR meth c cM_tryCut 5 (Option.none : Option Jvm.ClassFile.FieldType) yM_tryCut ∧ cf_E D K A s s.heap ∧ ∀ q, s.heap.size ≤ q → A q)) : ∀ n, IhM_tryCut p l e s m below meth c A D K h0 a0 AR n := by
  intro n
  induction n with
  | zero => exact ⟨(fun _ _ _ _ _ r h => by cases (show none = some r from h)), (fun _ _ _ _ _ r h => by cases (show none = some r from h))⟩
  | succ n ih => exact ⟨fun x0 x1 x2 x3 x4 r h _ _ _ hP hD hS hl => bM_tryCut_5 C ih x0 x1 x2 x3 x4 r h hP hD hS hl, fun x0 x1 x2 x3 x4 r h _ _ _ hP hD hS hl => bM_tryCut_39 C ih x0 x1 x2 x3 x4 r h hP hD hS hl⟩
set_option maxRecDepth 100000 in
theorem mM_tryCut (l : Launch) (D : va_G) (K : Nat → ClassId) (sz : Nat) (v1 : Int32) (v2 : Int32) (h0 : Nat) (a0 : Nat → Nat) (o0 : cf_O) (r : cf_O) (h : fM_tryCut v1 v2 o0 = some r) : Met l yM_tryCut (Cond.code yM_tryCut cM_tryCut 5 (Option.none : Option Jvm.ClassFile.FieldType) :: cfB) ({ frames := 1, cells := 0, slots := 0, locals := 25 }) (va_Pc [.ref h0, .int v1, .int v2] (cf_Pre D K sz (wM K h0 a0 o0))) (va_Qv (fun (_ : Unit) => True) (fun (_ : Unit) t => cf_At D (va_A (wM K h0 a0 o0) sz) (wM K h0 a0 r) t) (va_A (wM K h0 a0 o0) sz)) 0 0 (va_A (wM K h0 a0 o0) sz) := by
  refine cf_ofW (y := yM_tryCut) (As := [.ref h0, .int v1, .int v2]) (WS := wM K h0 a0 o0) (maxL := 5) (fun A => (va_Qv (fun (_ : Unit) => True) (fun (_ : Unit) t => cf_At D A (wM K h0 a0 r) t) A)) (by decide) (Nat.le_of_ble_eq_true rfl) ?_
  intro p e s m below meth c A ls En hsz hA hP hD hE hS hl
  have C : (dc_C p s m (([.ref h0, .int v1, .int v2] : List Value).toArray) meth c cM_tryCut 5 (Option.none : Option Jvm.ClassFile.FieldType) yM_tryCut ∧ cf_E D K A s s.heap ∧ ∀ q, s.heap.size ≤ q → A q) := ⟨En, hE, hA⟩
  exact bM_tryCut_0 C (iM_tryCut C cfFU) v1 v2 o0 r h hP hD hS hl
set_option maxHeartbeats 4000000 in
set_option maxRecDepth 100000 in
theorem bM_alone_67 {p : Program} {l : Launch} {e : Env} {s : State} {m : MethodId} {below : List Frame} {meth : Method} {c : Code} {A : Nat → Prop} {D : va_G} {K : Nat → ClassId} {h0 : Nat} {a0 : Nat → Nat} {AR : Array Value} (C : (dc_C p s m AR meth c cM_alone 3 (Option.none : Option Jvm.ClassFile.FieldType) yM_alone ∧ cf_E D K A s s.heap ∧ ∀ q, s.heap.size ≤ q → A q)) (s1 : Int32) (s2 : Int32) (o0 : cf_O) (r : cf_O) (h : fM_alone_67 s1 s2 o0 = some r) {H : Heap} {locs : List Loc} {ls : Array Slot} (hP : va_P D vwCl (wM K h0 a0 o0) H) (hD : va_D A (wM K h0 a0 o0)) (hS : va_S A s.heap H locs) (hl : lv_has ls 3 []) : W p l e ({ frames := 0, cells := 0, slots := 0, locals := 0 }) s m AR below meth c H locs 0 0 (MQ below (va_Qv (fun (_ : Unit) => True) (fun (_ : Unit) t => cf_At D A (wM K h0 a0 r) t) A) AR s 0 0 A) (F0 m 67 ls [.int s2, .int s1, .ref (a0 60)]) := by
  obtain ⟨⟨hx, hb, hr, hts, hown, hlocks, hin, hml⟩, hE, hA⟩ := id C
  have hK := hE.k
  obtain ⟨hi_1, h⟩ := op_n h
  refine va_iast (D := D) hx hb hK hP hD hS 41 0 rfl rfl hi_1 dM_alone_67 (fun H locs hP hD hS => ?_)
  have hP : va_P D vwCl (wM K h0 a0 (xp o0 60 s1.toNatClampNeg s2)) H := hP
  have hD : va_D A (wM K h0 a0 (xp o0 60 s1.toNatClampNeg s2)) := hD
  obtain ⟨o_2, eo_2, h⟩ := op_kx h
  rw [← eo_2] at hP hD
  obtain rfl := Option.some.inj h
  exact dc_vret hx hb hr hlocks rfl hP hD hS dM_alone_68
set_option maxHeartbeats 4000000 in
set_option maxRecDepth 100000 in
theorem bM_alone_38 {p : Program} {l : Launch} {e : Env} {s : State} {m : MethodId} {below : List Frame} {meth : Method} {c : Code} {A : Nat → Prop} {D : va_G} {K : Nat → ClassId} {h0 : Nat} {a0 : Nat → Nat} {AR : Array Value} (C : (dc_C p s m AR meth c cM_alone 3 (Option.none : Option Jvm.ClassFile.FieldType) yM_alone ∧ cf_E D K A s s.heap ∧ ∀ q, s.heap.size ≤ q → A q)) (v1 : Int32) (v2 : Int32) (s1 : Int32) (s2 : Int32) (o0 : cf_O) (r : cf_O) (h : fM_alone_38 v1 v2 s1 s2 o0 = some r) {H : Heap} {locs : List Loc} {ls : Array Slot} (hP : va_P D vwCl (wM K h0 a0 o0) H) (hD : va_D A (wM K h0 a0 o0)) (hS : va_S A s.heap H locs) (hl : lv_has ls 3 [(0, .ref h0), (1, .int v1), (2, .int v2)]) : W p l e ({ frames := 0, cells := 0, slots := 0, locals := 0 }) s m AR below meth c H locs 0 0 (MQ below (va_Qv (fun (_ : Unit) => True) (fun (_ : Unit) t => cf_At D A (wM K h0 a0 r) t) A) AR s 0 0 A) (F0 m 38 ls [.int s2, .int s1, .ref (a0 59)]) := by
  obtain ⟨⟨hx, hb, hr, hts, hown, hlocks, hin, hml⟩, hE, hA⟩ := id C
  have hK := hE.k
  obtain ⟨hi_1, h⟩ := op_n h
  refine va_iast (D := D) hx hb hK hP hD hS 40 0 rfl rfl hi_1 dM_alone_38 (fun H locs hP hD hS => ?_)
  have hP : va_P D vwCl (wM K h0 a0 (xp o0 59 s1.toNatClampNeg s2)) H := hP
  have hD : va_D A (wM K h0 a0 (xp o0 59 s1.toNatClampNeg s2)) := hD
  obtain ⟨o_2, eo_2, h⟩ := op_kx h
  rw [← eo_2] at hP hD
  refine lv_aload_n hx hb dM_alone_39 rfl (lv_at hl 0 rfl) ?_
  refine va_get (D := D) (ci := 12) (v := .ref (a0 58)) (C := RM) (T := TM) (N := 99) hx hb hts inM hown hK hP 0 rfl rfl 58 (by decide) (hts _ wv_2040) (fun _ h9 => h9) rfl dM_alone_40 ?_
  refine lv_iconst (v := 5) hx hb dM_alone_43 (by decide) ?_
  refine lv_iload_n hx hb dM_alone_44 rfl (lv_at hl 2 rfl) ?_
  refine lv_imul hx hb dM_alone_45 ?_
  refine lv_topi (fun x_3 ex_3 => ?_)
  have h := op_ks ex_3 h
  refine lv_iload_n hx hb dM_alone_46 rfl (lv_at hl 1 rfl) ?_
  obtain ⟨hi_4, h⟩ := op_n h
  refine va_iast (D := D) hx hb hK hP hD hS 39 0 rfl rfl hi_4 dM_alone_47 (fun H locs hP hD hS => ?_)
  have hP : va_P D vwCl (wM K h0 a0 (xp o_2 58 x_3.toNatClampNeg v1)) H := hP
  have hD : va_D A (wM K h0 a0 (xp o_2 58 x_3.toNatClampNeg v1)) := hD
  obtain ⟨o_5, eo_5, h⟩ := op_kx h
  rw [← eo_5] at hP hD
  refine lv_aload_n hx hb dM_alone_48 rfl (lv_at hl 0 rfl) ?_
  refine va_get (D := D) (ci := 12) (v := .ref (a0 60)) (C := RM) (T := TM) (N := 99) hx hb hts inM hown hK hP 0 rfl rfl 60 (by decide) (hts _ wv_2042) (fun _ h9 => h9) rfl dM_alone_49 ?_
  refine lv_iload_n hx hb dM_alone_52 rfl (lv_at hl 2 rfl) ?_
  refine lv_iload_n hx hb dM_alone_53 rfl (lv_at hl 1 rfl) ?_
  refine lv_if_le (tgt := 66) hx hb dM_alone_54 (by decide) (fun c_6 => ?_) (fun c_6 => ?_)
  · have h := op_t c_6 h
    refine lv_iconst (v := 0) hx hb dM_alone_66 (by decide) ?_
    exact bM_alone_67 C _ _ _ _ h hP hD hS (lv_sub hl [] rfl)
  · have h := op_f c_6 h
    refine lv_iconst (v := 1) hx hb dM_alone_57 (by decide) ?_
    refine lv_iload_n hx hb dM_alone_58 rfl (lv_at hl 1 rfl) ?_
    refine lv_bipush (v := 32) hx hb dM_alone_59 (by decide) ?_
    refine lv_irem hx hb dM_alone_61 (by decide) ?_
    refine lv_topi (fun x_7 ex_7 => ?_)
    have h := op_ks ex_7 h
    refine lv_ishl hx hb dM_alone_62 ?_
    refine lv_topi (fun x_8 ex_8 => ?_)
    have h := op_ks ex_8 h
    refine lv_goto (tgt := 67) hx hb dM_alone_63 (by decide) ?_
    exact bM_alone_67 C _ _ _ _ h hP hD hS (lv_sub hl [] rfl)
set_option maxHeartbeats 4000000 in
set_option maxRecDepth 100000 in
theorem bM_alone_11 {p : Program} {l : Launch} {e : Env} {s : State} {m : MethodId} {below : List Frame} {meth : Method} {c : Code} {A : Nat → Prop} {D : va_G} {K : Nat → ClassId} {h0 : Nat} {a0 : Nat → Nat} {AR : Array Value} (C : (dc_C p s m AR meth c cM_alone 3 (Option.none : Option Jvm.ClassFile.FieldType) yM_alone ∧ cf_E D K A s s.heap ∧ ∀ q, s.heap.size ≤ q → A q)) (v1 : Int32) (o0 : cf_O) (r : cf_O) (h : fM_alone_11 v1 o0 = some r) {H : Heap} {locs : List Loc} {ls : Array Slot} (hP : va_P D vwCl (wM K h0 a0 o0) H) (hD : va_D A (wM K h0 a0 o0)) (hS : va_S A s.heap H locs) (hl : lv_has ls 3 [(0, .ref h0), (1, .int v1)]) : W p l e ({ frames := 0, cells := 0, slots := 0, locals := 0 }) s m AR below meth c H locs 0 0 (MQ below (va_Qv (fun (_ : Unit) => True) (fun (_ : Unit) t => cf_At D A (wM K h0 a0 r) t) A) AR s 0 0 A) (F0 m 11 ls []) := by
  obtain ⟨⟨hx, hb, hr, hts, hown, hlocks, hin, hml⟩, hE, hA⟩ := id C
  have hK := hE.k
  refine lv_sipush (v := 301) hx hb dM_alone_11 (by decide) ?_
  refine lv_iload_n hx hb dM_alone_14 rfl (lv_at hl 1 rfl) ?_
  refine lv_imul hx hb dM_alone_15 ?_
  refine lv_topi (fun x_1 ex_1 => ?_)
  have h := op_ks ex_1 h
  refine lv_aload_n hx hb dM_alone_16 rfl (lv_at hl 0 rfl) ?_
  refine va_get (D := D) (ci := 12) (v := .ref (a0 57)) (C := RM) (T := TM) (N := 99) hx hb hts inM hown hK hP 0 rfl rfl 57 (by decide) (hts _ wv_2039) (fun _ h9 => h9) rfl dM_alone_17 ?_
  refine lv_iload_n hx hb dM_alone_20 rfl (lv_at hl 1 rfl) ?_
  obtain ⟨hi_2, h⟩ := op_n h
  refine va_iald (D := D) hx hb hK hP 38 0 rfl rfl hi_2 dM_alone_21 ?_
  refine lv_topi (fun x_3 ex_3 => ?_)
  have h := op_ks ex_3 h
  refine lv_iadd hx hb dM_alone_22 ?_
  refine lv_topi (fun x_4 ex_4 => ?_)
  have h := op_ks ex_4 h
  refine lv_istore_n (lv' := [(2, .int x_4), (0, .ref h0), (1, .int v1)]) hx hb dM_alone_23 rfl hl (by decide) rfl (fun ls hl => ?_)
  refine lv_aload_n hx hb dM_alone_24 rfl (lv_at hl 1 rfl) ?_
  refine va_get (D := D) (ci := 12) (v := .ref (a0 59)) (C := RM) (T := TM) (N := 99) hx hb hts inM hown hK hP 0 rfl rfl 59 (by decide) (hts _ wv_2041) (fun _ h9 => h9) rfl dM_alone_25 ?_
  refine lv_iload_n hx hb dM_alone_28 rfl (lv_at hl 0 rfl) ?_
  refine lv_iload_n hx hb dM_alone_29 rfl (lv_at hl 2 rfl) ?_
  refine lv_if_le (tgt := 37) hx hb dM_alone_30 (by decide) (fun c_5 => ?_) (fun c_5 => ?_)
  · have h := op_t c_5 h
    refine lv_iconst (v := 0) hx hb dM_alone_37 (by decide) ?_
    exact bM_alone_38 C _ _ _ _ _ _ h hP hD hS (lv_sub hl [1, 2, 0] rfl)
  · have h := op_f c_5 h
    refine lv_iconst (v := 1) hx hb dM_alone_33 (by decide) ?_
    refine lv_goto (tgt := 38) hx hb dM_alone_34 (by decide) ?_
    exact bM_alone_38 C _ _ _ _ _ _ h hP hD hS (lv_sub hl [1, 2, 0] rfl)
set_option maxHeartbeats 4000000 in
set_option maxRecDepth 100000 in
theorem bM_alone_0 {p : Program} {l : Launch} {e : Env} {s : State} {m : MethodId} {below : List Frame} {meth : Method} {c : Code} {A : Nat → Prop} {D : va_G} {K : Nat → ClassId} {h0 : Nat} {a0 : Nat → Nat} {AR : Array Value} (C : (dc_C p s m AR meth c cM_alone 3 (Option.none : Option Jvm.ClassFile.FieldType) yM_alone ∧ cf_E D K A s s.heap ∧ ∀ q, s.heap.size ≤ q → A q)) (v1 : Int32) (o0 : cf_O) (r : cf_O) (h : fM_alone_0 v1 o0 = some r) {H : Heap} {locs : List Loc} {ls : Array Slot} (hP : va_P D vwCl (wM K h0 a0 o0) H) (hD : va_D A (wM K h0 a0 o0)) (hS : va_S A s.heap H locs) (hl : lv_has ls 3 [(0, .ref h0), (1, .int v1)]) : W p l e ({ frames := 0, cells := 0, slots := 0, locals := 0 }) s m AR below meth c H locs 0 0 (MQ below (va_Qv (fun (_ : Unit) => True) (fun (_ : Unit) t => cf_At D A (wM K h0 a0 r) t) A) AR s 0 0 A) (F0 m 0 ls []) := by
  obtain ⟨⟨hx, hb, hr, hts, hown, hlocks, hin, hml⟩, hE, hA⟩ := id C
  have hK := hE.k
  refine lv_iload_n hx hb dM_alone_0 rfl (lv_at hl 1 rfl) ?_
  refine lv_if_le (tgt := 11) hx hb dM_alone_1 (by decide) (fun c_1 => ?_) (fun c_1 => ?_)
  · have h := op_t c_1 h
    exact bM_alone_11 C _ _ _ h hP hD hS (lv_sub hl [0, 1] rfl)
  · have h := op_f c_1 h
    refine lv_aload_n hx hb dM_alone_4 rfl (lv_at hl 0 rfl) ?_
    refine va_get (D := D) (ci := 12) (v := .ref (a0 61)) (C := RM) (T := TM) (N := 99) hx hb hts inM hown hK hP 0 rfl rfl 61 (by decide) (hts _ wv_2043) (fun _ h9 => h9) rfl dM_alone_5 ?_
    refine lv_iconst (v := 0) hx hb dM_alone_8 (by decide) ?_
    refine lv_iload_n hx hb dM_alone_9 rfl (lv_at hl 1 rfl) ?_
    obtain ⟨hi_2, h⟩ := op_n h
    refine va_iast (D := D) hx hb hK hP hD hS 42 0 rfl rfl hi_2 dM_alone_10 (fun H locs hP hD hS => ?_)
    have hP : va_P D vwCl (wM K h0 a0 (xp o0 61 (0 : Int32).toNatClampNeg v1)) H := hP
    have hD : va_D A (wM K h0 a0 (xp o0 61 (0 : Int32).toNatClampNeg v1)) := hD
    obtain ⟨o_3, eo_3, h⟩ := op_kx h
    rw [← eo_3] at hP hD
    exact bM_alone_11 C _ _ _ h hP hD hS (lv_sub hl [0, 1] rfl)
set_option maxRecDepth 100000 in
theorem mM_alone (l : Launch) (D : va_G) (K : Nat → ClassId) (sz : Nat) (v1 : Int32) (h0 : Nat) (a0 : Nat → Nat) (o0 : cf_O) (r : cf_O) (h : fM_alone v1 o0 = some r) : Met l yM_alone (Cond.code yM_alone cM_alone 3 (Option.none : Option Jvm.ClassFile.FieldType) :: cfB) ({ frames := 0, cells := 0, slots := 0, locals := 0 }) (va_Pc [.ref h0, .int v1] (cf_Pre D K sz (wM K h0 a0 o0))) (va_Qv (fun (_ : Unit) => True) (fun (_ : Unit) t => cf_At D (va_A (wM K h0 a0 o0) sz) (wM K h0 a0 r) t) (va_A (wM K h0 a0 o0) sz)) 0 0 (va_A (wM K h0 a0 o0) sz) := by
  refine cf_ofW (y := yM_alone) (As := [.ref h0, .int v1]) (WS := wM K h0 a0 o0) (maxL := 3) (fun A => (va_Qv (fun (_ : Unit) => True) (fun (_ : Unit) t => cf_At D A (wM K h0 a0 r) t) A)) (by decide) (Nat.le_of_ble_eq_true rfl) ?_
  intro p e s m below meth c A ls En hsz hA hP hD hE hS hl
  have C : (dc_C p s m (([.ref h0, .int v1] : List Value).toArray) meth c cM_alone 3 (Option.none : Option Jvm.ClassFile.FieldType) yM_alone ∧ cf_E D K A s s.heap ∧ ∀ q, s.heap.size ≤ q → A q) := ⟨En, hE, hA⟩
  exact bM_alone_0 C v1 o0 r h hP hD hS hl
def IhM_cut (p : Program) (l : Launch) (e : Env) (s : State) (m : MethodId) (below : List Frame) (meth : Method) (c : Code) (A : Nat → Prop) (D : va_G) (K : Nat → ClassId) (h0 : Nat) (a0 : Nat → Nat) (AR : Array Value) (n : Nat) : Prop := (∀ (v2 : Int32) (v3 : Int32) (v4 : Int32) (v5 : Int32) (v6 : Int32) (o0 : cf_O) (r : cf_O), gM_cut n 0 v2 v3 v4 v5 v6 0 0 o0 = some r → ∀ {H : Heap} {locs : List Loc} {ls : Array Slot}, (va_P D vwCl (wM K h0 a0 o0) H) → (va_D A (wM K h0 a0 o0)) → va_S A s.heap H locs → lv_has ls 10 [(0, .ref h0), (2, .int v2), (3, .int v3), (4, .int v4), (5, .int v5), (6, .int v6)] → W p l e ({ frames := 2, cells := 0, slots := 0, locals := 49 }) s m AR below meth c H locs 0 0 (MQ below (va_Qv (fun (_ : Unit) => True) (fun (_ : Unit) t => cf_At D A (wM K h0 a0 r) t) A) AR s 0 0 A) (F0 m 37 ls [])) ∧ (∀ (v2 : Int32) (v3 : Int32) (v4 : Int32) (v5 : Int32) (v6 : Int32) (v7 : Int32) (o0 : cf_O) (r : cf_O), gM_cut n 1 v2 v3 v4 v5 v6 v7 0 o0 = some r → ∀ {H : Heap} {locs : List Loc} {ls : Array Slot}, (va_P D vwCl (wM K h0 a0 o0) H) → (va_D A (wM K h0 a0 o0)) → va_S A s.heap H locs → lv_has ls 10 [(0, .ref h0), (2, .int v2), (3, .int v3), (4, .int v4), (5, .int v5), (6, .int v6), (7, .int v7)] → W p l e ({ frames := 2, cells := 0, slots := 0, locals := 49 }) s m AR below meth c H locs 0 0 (MQ below (va_Qv (fun (_ : Unit) => True) (fun (_ : Unit) t => cf_At D A (wM K h0 a0 r) t) A) AR s 0 0 A) (F0 m 51 ls [])) ∧ (∀ (v2 : Int32) (v3 : Int32) (v4 : Int32) (v5 : Int32) (v6 : Int32) (v7 : Int32) (v8 : Int32) (o0 : cf_O) (r : cf_O), gM_cut n 2 v2 v3 v4 v5 v6 v7 v8 o0 = some r → ∀ {H : Heap} {locs : List Loc} {ls : Array Slot}, (va_P D vwCl (wM K h0 a0 o0) H) → (va_D A (wM K h0 a0 o0)) → va_S A s.heap H locs → lv_has ls 10 [(0, .ref h0), (2, .int v2), (3, .int v3), (4, .int v4), (5, .int v5), (6, .int v6), (7, .int v7), (8, .int v8)] → W p l e ({ frames := 2, cells := 0, slots := 0, locals := 49 }) s m AR below meth c H locs 0 0 (MQ below (va_Qv (fun (_ : Unit) => True) (fun (_ : Unit) t => cf_At D A (wM K h0 a0 r) t) A) AR s 0 0 A) (F0 m 85 ls []))
set_option maxHeartbeats 4000000 in
set_option maxRecDepth 100000 in
theorem bM_cut_206 {p : Program} {l : Launch} {e : Env} {s : State} {m : MethodId} {below : List Frame} {meth : Method} {c : Code} {A : Nat → Prop} {D : va_G} {K : Nat → ClassId} {h0 : Nat} {a0 : Nat → Nat} {AR : Array Value} (C : (dc_C p s m AR meth c cM_cut 10 (Option.none : Option Jvm.ClassFile.FieldType) yM_cut ∧ cf_E D K A s s.heap ∧ ∀ q, s.heap.size ≤ q → A q)) {n : Nat} (ih : IhM_cut p l e s m below meth c A D K h0 a0 AR n) (v2 : Int32) (v3 : Int32) (v4 : Int32) (v5 : Int32) (v6 : Int32) (o0 : cf_O) (r : cf_O) (h : fM_cut_206 (gM_cut n) v2 v3 v4 v5 v6 o0 = some r) {H : Heap} {locs : List Loc} {ls : Array Slot} (hP : va_P D vwCl (wM K h0 a0 o0) H) (hD : va_D A (wM K h0 a0 o0)) (hS : va_S A s.heap H locs) (hl : lv_has ls 10 [(0, .ref h0), (2, .int v2), (3, .int v3), (4, .int v4), (5, .int v5), (6, .int v6)]) : W p l e ({ frames := 2, cells := 0, slots := 0, locals := 49 }) s m AR below meth c H locs 0 0 (MQ below (va_Qv (fun (_ : Unit) => True) (fun (_ : Unit) t => cf_At D A (wM K h0 a0 r) t) A) AR s 0 0 A) (F0 m 206 ls []) := by
  obtain ⟨⟨hx, hb, hr, hts, hown, hlocks, hin, hml⟩, hE, hA⟩ := id C
  have hK := hE.k
  obtain ⟨x_1, ex_1⟩ : ∃ y : Int32, y = v6 + 1 := ⟨_, rfl⟩
  refine lv_iinc (v := x_1) (lv' := [(6, .int x_1), (0, .ref h0), (2, .int v2), (3, .int v3), (4, .int v4), (5, .int v5)]) hx hb dM_cut_206 hl (k := 5) rfl (by rw [ex_1]; rfl) (by decide) rfl (fun ls hl => ?_)
  have h := op_ks ex_1 h
  refine lv_goto (tgt := 37) hx hb dM_cut_209 (by decide) ?_
  exact (ih.1) _ _ _ _ _ _ _ h hP hD hS (lv_sub hl [1, 2, 3, 4, 5, 0] rfl)
set_option maxHeartbeats 4000000 in
set_option maxRecDepth 100000 in
theorem bM_cut_200 {p : Program} {l : Launch} {e : Env} {s : State} {m : MethodId} {below : List Frame} {meth : Method} {c : Code} {A : Nat → Prop} {D : va_G} {K : Nat → ClassId} {h0 : Nat} {a0 : Nat → Nat} {AR : Array Value} (C : (dc_C p s m AR meth c cM_cut 10 (Option.none : Option Jvm.ClassFile.FieldType) yM_cut ∧ cf_E D K A s s.heap ∧ ∀ q, s.heap.size ≤ q → A q)) {n : Nat} (ih : IhM_cut p l e s m below meth c A D K h0 a0 AR n) (v2 : Int32) (v3 : Int32) (v4 : Int32) (v5 : Int32) (v6 : Int32) (v7 : Int32) (o0 : cf_O) (r : cf_O) (h : fM_cut_200 (gM_cut n) v2 v3 v4 v5 v6 v7 o0 = some r) {H : Heap} {locs : List Loc} {ls : Array Slot} (hP : va_P D vwCl (wM K h0 a0 o0) H) (hD : va_D A (wM K h0 a0 o0)) (hS : va_S A s.heap H locs) (hl : lv_has ls 10 [(0, .ref h0), (2, .int v2), (3, .int v3), (4, .int v4), (5, .int v5), (6, .int v6), (7, .int v7)]) : W p l e ({ frames := 2, cells := 0, slots := 0, locals := 49 }) s m AR below meth c H locs 0 0 (MQ below (va_Qv (fun (_ : Unit) => True) (fun (_ : Unit) t => cf_At D A (wM K h0 a0 r) t) A) AR s 0 0 A) (F0 m 200 ls []) := by
  obtain ⟨⟨hx, hb, hr, hts, hown, hlocks, hin, hml⟩, hE, hA⟩ := id C
  have hK := hE.k
  obtain ⟨x_1, ex_1⟩ : ∃ y : Int32, y = v7 + 1 := ⟨_, rfl⟩
  refine lv_iinc (v := x_1) (lv' := [(7, .int x_1), (0, .ref h0), (2, .int v2), (3, .int v3), (4, .int v4), (5, .int v5), (6, .int v6)]) hx hb dM_cut_200 hl (k := 6) rfl (by rw [ex_1]; rfl) (by decide) rfl (fun ls hl => ?_)
  have h := op_ks ex_1 h
  refine lv_goto (tgt := 51) hx hb dM_cut_203 (by decide) ?_
  exact (ih.2.1) _ _ _ _ _ _ _ _ h hP hD hS (lv_sub hl [1, 2, 3, 4, 5, 6, 0] rfl)
set_option maxHeartbeats 4000000 in
set_option maxRecDepth 100000 in
theorem bM_cut_194 {p : Program} {l : Launch} {e : Env} {s : State} {m : MethodId} {below : List Frame} {meth : Method} {c : Code} {A : Nat → Prop} {D : va_G} {K : Nat → ClassId} {h0 : Nat} {a0 : Nat → Nat} {AR : Array Value} (C : (dc_C p s m AR meth c cM_cut 10 (Option.none : Option Jvm.ClassFile.FieldType) yM_cut ∧ cf_E D K A s s.heap ∧ ∀ q, s.heap.size ≤ q → A q)) {n : Nat} (ih : IhM_cut p l e s m below meth c A D K h0 a0 AR n) (v2 : Int32) (v3 : Int32) (v4 : Int32) (v5 : Int32) (v6 : Int32) (v7 : Int32) (v8 : Int32) (o0 : cf_O) (r : cf_O) (h : fM_cut_194 (gM_cut n) v2 v3 v4 v5 v6 v7 v8 o0 = some r) {H : Heap} {locs : List Loc} {ls : Array Slot} (hP : va_P D vwCl (wM K h0 a0 o0) H) (hD : va_D A (wM K h0 a0 o0)) (hS : va_S A s.heap H locs) (hl : lv_has ls 10 [(0, .ref h0), (2, .int v2), (3, .int v3), (4, .int v4), (5, .int v5), (6, .int v6), (7, .int v7), (8, .int v8)]) : W p l e ({ frames := 2, cells := 0, slots := 0, locals := 49 }) s m AR below meth c H locs 0 0 (MQ below (va_Qv (fun (_ : Unit) => True) (fun (_ : Unit) t => cf_At D A (wM K h0 a0 r) t) A) AR s 0 0 A) (F0 m 194 ls []) := by
  obtain ⟨⟨hx, hb, hr, hts, hown, hlocks, hin, hml⟩, hE, hA⟩ := id C
  have hK := hE.k
  obtain ⟨x_1, ex_1⟩ : ∃ y : Int32, y = v8 + 1 := ⟨_, rfl⟩
  refine lv_iinc (v := x_1) (lv' := [(8, .int x_1), (0, .ref h0), (2, .int v2), (3, .int v3), (4, .int v4), (5, .int v5), (6, .int v6), (7, .int v7)]) hx hb dM_cut_194 hl (k := 7) rfl (by rw [ex_1]; rfl) (by decide) rfl (fun ls hl => ?_)
  have h := op_ks ex_1 h
  refine lv_goto (tgt := 85) hx hb dM_cut_197 (by decide) ?_
  exact (ih.2.2) _ _ _ _ _ _ _ _ _ h hP hD hS (lv_sub hl [1, 2, 3, 4, 5, 6, 7, 0] rfl)
set_option maxHeartbeats 4000000 in
set_option maxRecDepth 100000 in
theorem bM_cut_145 {p : Program} {l : Launch} {e : Env} {s : State} {m : MethodId} {below : List Frame} {meth : Method} {c : Code} {A : Nat → Prop} {D : va_G} {K : Nat → ClassId} {h0 : Nat} {a0 : Nat → Nat} {AR : Array Value} (C : (dc_C p s m AR meth c cM_cut 10 (Option.none : Option Jvm.ClassFile.FieldType) yM_cut ∧ cf_E D K A s s.heap ∧ ∀ q, s.heap.size ≤ q → A q)) {n : Nat} (ih : IhM_cut p l e s m below meth c A D K h0 a0 AR n) (v2 : Int32) (v3 : Int32) (v4 : Int32) (v5 : Int32) (v6 : Int32) (v7 : Int32) (v8 : Int32) (s0 : Int32) (o0 : cf_O) (r : cf_O) (h : fM_cut_145 (gM_cut n) v2 v3 v4 v5 v6 v7 v8 s0 o0 = some r) {H : Heap} {locs : List Loc} {ls : Array Slot} (hP : va_P D vwCl (wM K h0 a0 o0) H) (hD : va_D A (wM K h0 a0 o0)) (hS : va_S A s.heap H locs) (hl : lv_has ls 10 [(0, .ref h0), (2, .int v2), (3, .int v3), (4, .int v4), (5, .int v5), (6, .int v6), (7, .int v7), (8, .int v8)]) : W p l e ({ frames := 2, cells := 0, slots := 0, locals := 49 }) s m AR below meth c H locs 0 0 (MQ below (va_Qv (fun (_ : Unit) => True) (fun (_ : Unit) t => cf_At D A (wM K h0 a0 r) t) A) AR s 0 0 A) (F0 m 145 ls [.int s0]) := by
  obtain ⟨⟨hx, hb, hr, hts, hown, hlocks, hin, hml⟩, hE, hA⟩ := id C
  have hK := hE.k
  refine lv_istore (lv' := [(9, .int s0), (0, .ref h0), (2, .int v2), (3, .int v3), (4, .int v4), (5, .int v5), (6, .int v6), (7, .int v7), (8, .int v8)]) hx hb dM_cut_145 hl (by decide) rfl (fun ls hl => ?_)
  refine lv_iload hx hb dM_cut_147 (lv_at hl 0 rfl) ?_
  refine lv_iload hx hb dM_cut_149 (lv_at hl 6 rfl) ?_
  refine lv_icmp_gt (tgt := 194) hx hb dM_cut_151 (by decide) (fun c_1 => ?_) (fun c_1 => ?_)
  · have h := op_t c_1 h
    exact bM_cut_194 C ih _ _ _ _ _ _ _ _ _ h hP hD hS (lv_sub hl [1, 2, 3, 4, 5, 6, 7, 8] rfl)
  · have h := op_f c_1 h
    refine lv_aload_n hx hb dM_cut_154 rfl (lv_at hl 1 rfl) ?_
    refine va_get (D := D) (ci := 12) (v := .ref (a0 59)) (C := RM) (T := TM) (N := 99) hx hb hts inM hown hK hP 0 rfl rfl 59 (by decide) (hts _ wv_2041) (fun _ h9 => h9) rfl dM_cut_155 ?_
    refine lv_iload hx hb dM_cut_158 (lv_at hl 7 rfl) ?_
    obtain ⟨hi_2, h⟩ := op_n h
    refine va_iald (D := D) hx hb hK hP 40 0 rfl rfl hi_2 dM_cut_160 ?_
    refine lv_topi (fun x_3 ex_3 => ?_)
    have h := op_ks ex_3 h
    refine lv_aload_n hx hb dM_cut_161 rfl (lv_at hl 1 rfl) ?_
    refine va_get (D := D) (ci := 12) (v := .ref (a0 59)) (C := RM) (T := TM) (N := 99) hx hb hts inM hown hK hP 0 rfl rfl 59 (by decide) (hts _ wv_2041) (fun _ h9 => h9) rfl dM_cut_162 ?_
    refine lv_iload hx hb dM_cut_165 (lv_at hl 8 rfl) ?_
    obtain ⟨hi_4, h⟩ := op_n h
    refine va_iald (D := D) hx hb hK hP 40 0 rfl rfl hi_4 dM_cut_167 ?_
    refine lv_topi (fun x_5 ex_5 => ?_)
    have h := op_ks ex_5 h
    refine lv_iadd hx hb dM_cut_168 ?_
    refine lv_topi (fun x_6 ex_6 => ?_)
    have h := op_ks ex_6 h
    refine lv_iload hx hb dM_cut_169 (lv_at hl 6 rfl) ?_
    refine lv_icmp_lt (tgt := 194) hx hb dM_cut_171 (by decide) (fun c_7 => ?_) (fun c_7 => ?_)
    · have h := op_t c_7 h
      exact bM_cut_194 C ih _ _ _ _ _ _ _ _ _ h hP hD hS (lv_sub hl [1, 2, 3, 4, 5, 6, 7, 8] rfl)
    · have h := op_f c_7 h
      refine lv_aload_n hx hb dM_cut_174 rfl (lv_at hl 1 rfl) ?_
      refine lv_iload hx hb dM_cut_175 (lv_at hl 7 rfl) ?_
      refine lv_iload hx hb dM_cut_177 (lv_at hl 8 rfl) ?_
      obtain ⟨q_8, hq_8, h⟩ := op_b h
      refine dc_calli (va_runV (As := [.int v7, .int v8]) (rest := []) ⟨hx, hb, hml, hown, hts⟩ (mM_join l D K _ v7 v8 h0 a0 o0 _ hq_8) (cwV 2 hts (cf_GV wv_2490 wv_2492 wv_102 wv_173 wv_2493) rfl rfl rfl (by decide +kernel) ⟨Nat.le_of_ble_eq_true rfl, Nat.le_of_ble_eq_true rfl⟩) (dc_preV hE hP hD hS hA rfl 0 rfl) rfl rfl hl.1 rfl (lv_room (Nat.le_of_ble_eq_true rfl)) dM_cut_179 ⟨Nat.le_of_ble_eq_true rfl, Nat.le_of_ble_eq_true rfl⟩) hP hD hS hA (fun r_9 H locs hw_10 hP hD hS => ?_)
      subst r_9
      refine lv_iload hx hb dM_cut_182 (lv_at hl 6 rfl) ?_
      refine lv_icmp_ne (tgt := 194) hx hb dM_cut_184 (by decide) (fun c_11 => ?_) (fun c_11 => ?_)
      · have h := op_f c_11 h
        exact bM_cut_194 C ih _ _ _ _ _ _ _ _ _ h hP hD hS (lv_sub hl [1, 2, 3, 4, 5, 6, 7, 8] rfl)
      · have h := op_t c_11 h
        refine lv_aload_n hx hb dM_cut_187 rfl (lv_at hl 1 rfl) ?_
        refine lv_iload_n hx hb dM_cut_188 rfl (lv_at hl 3 rfl) ?_
        refine lv_iload hx hb dM_cut_189 (lv_at hl 6 rfl) ?_
        obtain ⟨q_12, hq_12, h⟩ := op_b h
        refine dc_callv (va_runV (As := [.int v3, .int v6]) (rest := []) ⟨hx, hb, hml, hown, hts⟩ (mM_tryCut l D K _ v3 v6 h0 a0 q_8.2 _ hq_12) (cwV 2 hts (cf_GV wv_2494 wv_2496 wv_103 wv_173 wv_2497) rfl rfl rfl (by decide +kernel) ⟨Nat.le_of_ble_eq_true rfl, Nat.le_of_ble_eq_true rfl⟩) (dc_preV hE hP hD hS hA rfl 0 rfl) rfl rfl hl.1 rfl (lv_room (Nat.le_of_ble_eq_true rfl)) dM_cut_191 ⟨Nat.le_of_ble_eq_true rfl, Nat.le_of_ble_eq_true rfl⟩) hP hD hS hA (fun H locs hP hD hS => ?_)
        exact bM_cut_194 C ih _ _ _ _ _ _ _ _ _ h hP hD hS (lv_sub hl [1, 2, 3, 4, 5, 6, 7, 8] rfl)
set_option maxHeartbeats 4000000 in
set_option maxRecDepth 100000 in
theorem bM_cut_85 {p : Program} {l : Launch} {e : Env} {s : State} {m : MethodId} {below : List Frame} {meth : Method} {c : Code} {A : Nat → Prop} {D : va_G} {K : Nat → ClassId} {h0 : Nat} {a0 : Nat → Nat} {AR : Array Value} (C : (dc_C p s m AR meth c cM_cut 10 (Option.none : Option Jvm.ClassFile.FieldType) yM_cut ∧ cf_E D K A s s.heap ∧ ∀ q, s.heap.size ≤ q → A q)) {n : Nat} (ih : IhM_cut p l e s m below meth c A D K h0 a0 AR n) (v2 : Int32) (v3 : Int32) (v4 : Int32) (v5 : Int32) (v6 : Int32) (v7 : Int32) (v8 : Int32) (o0 : cf_O) (r : cf_O) (h : fM_cut_85 (gM_cut n) v2 v3 v4 v5 v6 v7 v8 o0 = some r) {H : Heap} {locs : List Loc} {ls : Array Slot} (hP : va_P D vwCl (wM K h0 a0 o0) H) (hD : va_D A (wM K h0 a0 o0)) (hS : va_S A s.heap H locs) (hl : lv_has ls 10 [(0, .ref h0), (2, .int v2), (3, .int v3), (4, .int v4), (5, .int v5), (6, .int v6), (7, .int v7), (8, .int v8)]) : W p l e ({ frames := 2, cells := 0, slots := 0, locals := 49 }) s m AR below meth c H locs 0 0 (MQ below (va_Qv (fun (_ : Unit) => True) (fun (_ : Unit) t => cf_At D A (wM K h0 a0 r) t) A) AR s 0 0 A) (F0 m 85 ls []) := by
  obtain ⟨⟨hx, hb, hr, hts, hown, hlocks, hin, hml⟩, hE, hA⟩ := id C
  have hK := hE.k
  refine lv_iload hx hb dM_cut_85 (lv_at hl 7 rfl) ?_
  refine lv_sipush (v := 301) hx hb dM_cut_87 (by decide) ?_
  refine lv_iload hx hb dM_cut_90 (lv_at hl 4 rfl) ?_
  refine lv_imul hx hb dM_cut_92 ?_
  refine lv_topi (fun x_1 ex_1 => ?_)
  have h := op_ks ex_1 h
  refine lv_aload_n hx hb dM_cut_93 rfl (lv_at hl 0 rfl) ?_
  refine va_get (D := D) (ci := 12) (v := .ref (a0 57)) (C := RM) (T := TM) (N := 99) hx hb hts inM hown hK hP 0 rfl rfl 57 (by decide) (hts _ wv_2039) (fun _ h9 => h9) rfl dM_cut_94 ?_
  refine lv_iload hx hb dM_cut_97 (lv_at hl 4 rfl) ?_
  obtain ⟨hi_2, h⟩ := op_n h
  refine va_iald (D := D) hx hb hK hP 38 0 rfl rfl hi_2 dM_cut_99 ?_
  refine lv_topi (fun x_3 ex_3 => ?_)
  have h := op_ks ex_3 h
  refine lv_iadd hx hb dM_cut_100 ?_
  refine lv_topi (fun x_4 ex_4 => ?_)
  have h := op_ks ex_4 h
  refine lv_icmp_gt (tgt := 200) hx hb dM_cut_101 (by decide) (fun c_5 => ?_) (fun c_5 => ?_)
  · have h := op_t c_5 h
    exact bM_cut_200 C ih _ _ _ _ _ _ _ _ h hP hD hS (lv_sub hl [0, 1, 2, 3, 4, 5, 6] rfl)
  · have h := op_f c_5 h
    refine lv_aload_n hx hb dM_cut_104 rfl (lv_at hl 0 rfl) ?_
    refine va_get (D := D) (ci := 12) (v := .int (o0.1 36)) (C := RM) (T := TM) (N := 99) hx hb hts inM hown hK hP 0 rfl rfl 36 (by decide) (hts _ wv_2018) (fun _ h9 => h9) rfl dM_cut_105 ?_
    refine lv_if_ne (tgt := 200) hx hb dM_cut_108 (by decide) (fun c_6 => ?_) (fun c_6 => ?_)
    · have h := op_f c_6 h
      exact bM_cut_200 C ih _ _ _ _ _ _ _ _ h hP hD hS (lv_sub hl [0, 1, 2, 3, 4, 5, 6] rfl)
    · have h := op_t c_6 h
      refine lv_aload_n hx hb dM_cut_111 rfl (lv_at hl 0 rfl) ?_
      refine va_get (D := D) (ci := 12) (v := .ref (a0 59)) (C := RM) (T := TM) (N := 99) hx hb hts inM hown hK hP 0 rfl rfl 59 (by decide) (hts _ wv_2041) (fun _ h9 => h9) rfl dM_cut_112 ?_
      refine lv_iload hx hb dM_cut_115 (lv_at hl 6 rfl) ?_
      obtain ⟨hi_7, h⟩ := op_n h
      refine va_iald (D := D) hx hb hK hP 40 0 rfl rfl hi_7 dM_cut_117 ?_
      refine lv_topi (fun x_8 ex_8 => ?_)
      have h := op_ks ex_8 h
      refine lv_aload_n hx hb dM_cut_118 rfl (lv_at hl 0 rfl) ?_
      refine va_get (D := D) (ci := 12) (v := .ref (a0 59)) (C := RM) (T := TM) (N := 99) hx hb hts inM hown hK hP 0 rfl rfl 59 (by decide) (hts _ wv_2041) (fun _ h9 => h9) rfl dM_cut_119 ?_
      refine lv_iload hx hb dM_cut_122 (lv_at hl 7 rfl) ?_
      obtain ⟨hi_9, h⟩ := op_n h
      refine va_iald (D := D) hx hb hK hP 40 0 rfl rfl hi_9 dM_cut_124 ?_
      refine lv_topi (fun x_10 ex_10 => ?_)
      have h := op_ks ex_10 h
      refine lv_icmp_le (tgt := 138) hx hb dM_cut_125 (by decide) (fun c_11 => ?_) (fun c_11 => ?_)
      · have h := op_t c_11 h
        refine lv_aload_n hx hb dM_cut_138 rfl (lv_at hl 0 rfl) ?_
        refine va_get (D := D) (ci := 12) (v := .ref (a0 59)) (C := RM) (T := TM) (N := 99) hx hb hts inM hown hK hP 0 rfl rfl 59 (by decide) (hts _ wv_2041) (fun _ h9 => h9) rfl dM_cut_139 ?_
        refine lv_iload hx hb dM_cut_142 (lv_at hl 7 rfl) ?_
        obtain ⟨hi_12, h⟩ := op_n h
        refine va_iald (D := D) hx hb hK hP 40 0 rfl rfl hi_12 dM_cut_144 ?_
        refine lv_topi (fun x_13 ex_13 => ?_)
        have h := op_ks ex_13 h
        exact bM_cut_145 C ih _ _ _ _ _ _ _ _ _ _ h hP hD hS (lv_sub hl [0, 1, 2, 3, 4, 5, 6, 7] rfl)
      · have h := op_f c_11 h
        refine lv_aload_n hx hb dM_cut_128 rfl (lv_at hl 0 rfl) ?_
        refine va_get (D := D) (ci := 12) (v := .ref (a0 59)) (C := RM) (T := TM) (N := 99) hx hb hts inM hown hK hP 0 rfl rfl 59 (by decide) (hts _ wv_2041) (fun _ h9 => h9) rfl dM_cut_129 ?_
        refine lv_iload hx hb dM_cut_132 (lv_at hl 6 rfl) ?_
        obtain ⟨hi_14, h⟩ := op_n h
        refine va_iald (D := D) hx hb hK hP 40 0 rfl rfl hi_14 dM_cut_134 ?_
        refine lv_topi (fun x_15 ex_15 => ?_)
        have h := op_ks ex_15 h
        refine lv_goto (tgt := 145) hx hb dM_cut_135 (by decide) ?_
        exact bM_cut_145 C ih _ _ _ _ _ _ _ _ _ _ h hP hD hS (lv_sub hl [0, 1, 2, 3, 4, 5, 6, 7] rfl)
set_option maxHeartbeats 4000000 in
set_option maxRecDepth 100000 in
theorem bM_cut_51 {p : Program} {l : Launch} {e : Env} {s : State} {m : MethodId} {below : List Frame} {meth : Method} {c : Code} {A : Nat → Prop} {D : va_G} {K : Nat → ClassId} {h0 : Nat} {a0 : Nat → Nat} {AR : Array Value} (C : (dc_C p s m AR meth c cM_cut 10 (Option.none : Option Jvm.ClassFile.FieldType) yM_cut ∧ cf_E D K A s s.heap ∧ ∀ q, s.heap.size ≤ q → A q)) {n : Nat} (ih : IhM_cut p l e s m below meth c A D K h0 a0 AR n) (v2 : Int32) (v3 : Int32) (v4 : Int32) (v5 : Int32) (v6 : Int32) (v7 : Int32) (o0 : cf_O) (r : cf_O) (h : fM_cut_51 (gM_cut n) v2 v3 v4 v5 v6 v7 o0 = some r) {H : Heap} {locs : List Loc} {ls : Array Slot} (hP : va_P D vwCl (wM K h0 a0 o0) H) (hD : va_D A (wM K h0 a0 o0)) (hS : va_S A s.heap H locs) (hl : lv_has ls 10 [(0, .ref h0), (2, .int v2), (3, .int v3), (4, .int v4), (5, .int v5), (6, .int v6), (7, .int v7)]) : W p l e ({ frames := 2, cells := 0, slots := 0, locals := 49 }) s m AR below meth c H locs 0 0 (MQ below (va_Qv (fun (_ : Unit) => True) (fun (_ : Unit) t => cf_At D A (wM K h0 a0 r) t) A) AR s 0 0 A) (F0 m 51 ls []) := by
  obtain ⟨⟨hx, hb, hr, hts, hown, hlocks, hin, hml⟩, hE, hA⟩ := id C
  have hK := hE.k
  refine lv_iload hx hb dM_cut_51 (lv_at hl 6 rfl) ?_
  refine lv_sipush (v := 301) hx hb dM_cut_53 (by decide) ?_
  refine lv_iload hx hb dM_cut_56 (lv_at hl 3 rfl) ?_
  refine lv_imul hx hb dM_cut_58 ?_
  refine lv_topi (fun x_1 ex_1 => ?_)
  have h := op_ks ex_1 h
  refine lv_aload_n hx hb dM_cut_59 rfl (lv_at hl 0 rfl) ?_
  refine va_get (D := D) (ci := 12) (v := .ref (a0 57)) (C := RM) (T := TM) (N := 99) hx hb hts inM hown hK hP 0 rfl rfl 57 (by decide) (hts _ wv_2039) (fun _ h9 => h9) rfl dM_cut_60 ?_
  refine lv_iload hx hb dM_cut_63 (lv_at hl 3 rfl) ?_
  obtain ⟨hi_2, h⟩ := op_n h
  refine va_iald (D := D) hx hb hK hP 38 0 rfl rfl hi_2 dM_cut_65 ?_
  refine lv_topi (fun x_3 ex_3 => ?_)
  have h := op_ks ex_3 h
  refine lv_iadd hx hb dM_cut_66 ?_
  refine lv_topi (fun x_4 ex_4 => ?_)
  have h := op_ks ex_4 h
  refine lv_icmp_gt (tgt := 206) hx hb dM_cut_67 (by decide) (fun c_5 => ?_) (fun c_5 => ?_)
  · have h := op_t c_5 h
    exact bM_cut_206 C ih _ _ _ _ _ _ _ h hP hD hS (lv_sub hl [0, 1, 2, 3, 4, 5] rfl)
  · have h := op_f c_5 h
    refine lv_aload_n hx hb dM_cut_70 rfl (lv_at hl 0 rfl) ?_
    refine va_get (D := D) (ci := 12) (v := .int (o0.1 36)) (C := RM) (T := TM) (N := 99) hx hb hts inM hown hK hP 0 rfl rfl 36 (by decide) (hts _ wv_2018) (fun _ h9 => h9) rfl dM_cut_71 ?_
    refine lv_if_ne (tgt := 206) hx hb dM_cut_74 (by decide) (fun c_6 => ?_) (fun c_6 => ?_)
    · have h := op_f c_6 h
      exact bM_cut_206 C ih _ _ _ _ _ _ _ h hP hD hS (lv_sub hl [0, 1, 2, 3, 4, 5] rfl)
    · have h := op_t c_6 h
      refine lv_sipush (v := 301) hx hb dM_cut_77 (by decide) ?_
      refine lv_iload hx hb dM_cut_80 (lv_at hl 4 rfl) ?_
      refine lv_imul hx hb dM_cut_82 ?_
      refine lv_topi (fun x_7 ex_7 => ?_)
      have h := op_ks ex_7 h
      refine lv_istore (lv' := [(8, .int x_7), (0, .ref h0), (2, .int v2), (3, .int v3), (4, .int v4), (5, .int v5), (6, .int v6), (7, .int v7)]) hx hb dM_cut_83 hl (by decide) rfl (fun ls hl => ?_)
      exact (ih.2.2) _ _ _ _ _ _ _ _ _ h hP hD hS (lv_sub hl [1, 2, 3, 4, 5, 6, 7, 0] rfl)
set_option maxHeartbeats 4000000 in
set_option maxRecDepth 100000 in
theorem bM_cut_37 {p : Program} {l : Launch} {e : Env} {s : State} {m : MethodId} {below : List Frame} {meth : Method} {c : Code} {A : Nat → Prop} {D : va_G} {K : Nat → ClassId} {h0 : Nat} {a0 : Nat → Nat} {AR : Array Value} (C : (dc_C p s m AR meth c cM_cut 10 (Option.none : Option Jvm.ClassFile.FieldType) yM_cut ∧ cf_E D K A s s.heap ∧ ∀ q, s.heap.size ≤ q → A q)) {n : Nat} (ih : IhM_cut p l e s m below meth c A D K h0 a0 AR n) (v2 : Int32) (v3 : Int32) (v4 : Int32) (v5 : Int32) (v6 : Int32) (o0 : cf_O) (r : cf_O) (h : fM_cut_37 (gM_cut n) v2 v3 v4 v5 v6 o0 = some r) {H : Heap} {locs : List Loc} {ls : Array Slot} (hP : va_P D vwCl (wM K h0 a0 o0) H) (hD : va_D A (wM K h0 a0 o0)) (hS : va_S A s.heap H locs) (hl : lv_has ls 10 [(0, .ref h0), (2, .int v2), (3, .int v3), (4, .int v4), (5, .int v5), (6, .int v6)]) : W p l e ({ frames := 2, cells := 0, slots := 0, locals := 49 }) s m AR below meth c H locs 0 0 (MQ below (va_Qv (fun (_ : Unit) => True) (fun (_ : Unit) t => cf_At D A (wM K h0 a0 r) t) A) AR s 0 0 A) (F0 m 37 ls []) := by
  obtain ⟨⟨hx, hb, hr, hts, hown, hlocks, hin, hml⟩, hE, hA⟩ := id C
  have hK := hE.k
  refine lv_iload hx hb dM_cut_37 (lv_at hl 5 rfl) ?_
  refine lv_iload_n hx hb dM_cut_39 rfl (lv_at hl 1 rfl) ?_
  refine lv_icmp_gt (tgt := 212) hx hb dM_cut_40 (by decide) (fun c_1 => ?_) (fun c_1 => ?_)
  · have h := op_t c_1 h
    refine lv_aload_n hx hb dM_cut_212 rfl (lv_at hl 0 rfl) ?_
    refine lv_iload_n hx hb dM_cut_213 rfl (lv_at hl 2 rfl) ?_
    obtain ⟨q_2, hq_2, h⟩ := op_b h
    refine dc_callv (va_runV (As := [.int v3]) (rest := []) ⟨hx, hb, hml, hown, hts⟩ (mM_alone l D K _ v3 h0 a0 o0 _ hq_2) (cwV 1 hts (cf_GV wv_2482 wv_2484 wv_100 wv_173 wv_2485) rfl rfl rfl (by decide +kernel) ⟨Nat.le_of_ble_eq_true rfl, Nat.le_of_ble_eq_true rfl⟩) (dc_preV hE hP hD hS hA rfl 0 rfl) rfl rfl hl.1 rfl (lv_room (Nat.le_of_ble_eq_true rfl)) dM_cut_214 ⟨Nat.le_of_ble_eq_true rfl, Nat.le_of_ble_eq_true rfl⟩) hP hD hS hA (fun H locs hP hD hS => ?_)
    obtain rfl := Option.some.inj h
    exact dc_vret hx hb hr hlocks rfl hP hD hS dM_cut_217
  · have h := op_f c_1 h
    refine lv_sipush (v := 301) hx hb dM_cut_43 (by decide) ?_
    refine lv_iload hx hb dM_cut_46 (lv_at hl 3 rfl) ?_
    refine lv_imul hx hb dM_cut_48 ?_
    refine lv_topi (fun x_4 ex_4 => ?_)
    have h := op_ks ex_4 h
    refine lv_istore (lv' := [(7, .int x_4), (0, .ref h0), (2, .int v2), (3, .int v3), (4, .int v4), (5, .int v5), (6, .int v6)]) hx hb dM_cut_49 hl (by decide) rfl (fun ls hl => ?_)
    exact (ih.2.1) _ _ _ _ _ _ _ _ h hP hD hS (lv_sub hl [1, 2, 3, 4, 5, 6, 0] rfl)
set_option maxHeartbeats 4000000 in
set_option maxRecDepth 100000 in
theorem bM_cut_0 {p : Program} {l : Launch} {e : Env} {s : State} {m : MethodId} {below : List Frame} {meth : Method} {c : Code} {A : Nat → Prop} {D : va_G} {K : Nat → ClassId} {h0 : Nat} {a0 : Nat → Nat} {AR : Array Value} (C : (dc_C p s m AR meth c cM_cut 10 (Option.none : Option Jvm.ClassFile.FieldType) yM_cut ∧ cf_E D K A s s.heap ∧ ∀ q, s.heap.size ≤ q → A q)) {n : Nat} (ih : IhM_cut p l e s m below meth c A D K h0 a0 AR n) (v1 : Int32) (v2 : Int32) (o0 : cf_O) (r : cf_O) (h : fM_cut_0 (gM_cut n) v1 v2 o0 = some r) {H : Heap} {locs : List Loc} {ls : Array Slot} (hP : va_P D vwCl (wM K h0 a0 o0) H) (hD : va_D A (wM K h0 a0 o0)) (hS : va_S A s.heap H locs) (hl : lv_has ls 10 [(0, .ref h0), (1, .int v1), (2, .int v2)]) : W p l e ({ frames := 2, cells := 0, slots := 0, locals := 49 }) s m AR below meth c H locs 0 0 (MQ below (va_Qv (fun (_ : Unit) => True) (fun (_ : Unit) t => cf_At D A (wM K h0 a0 r) t) A) AR s 0 0 A) (F0 m 0 ls []) := by
  obtain ⟨⟨hx, hb, hr, hts, hown, hlocks, hin, hml⟩, hE, hA⟩ := id C
  have hK := hE.k
  refine lv_aload_n hx hb dM_cut_0 rfl (lv_at hl 0 rfl) ?_
  obtain ⟨q_1, hq_1, h⟩ := op_b h
  refine dc_calli (va_runV (As := []) (rest := []) ⟨hx, hb, hml, hown, hts⟩ (mM_base l D K _ h0 a0 o0 _ hq_1) (cwV 0 hts (cf_GV wv_2412 wv_2414 wv_88 wv_173 wv_2415) rfl rfl rfl (by decide +kernel) ⟨Nat.le_of_ble_eq_true rfl, Nat.le_of_ble_eq_true rfl⟩) (dc_preV hE hP hD hS hA rfl 0 rfl) rfl rfl hl.1 rfl (lv_room (Nat.le_of_ble_eq_true rfl)) dM_cut_1 ⟨Nat.le_of_ble_eq_true rfl, Nat.le_of_ble_eq_true rfl⟩) hP hD hS hA (fun r_2 H locs hw_3 hP hD hS => ?_)
  subst r_2
  refine lv_iload_n hx hb dM_cut_4 rfl (lv_at hl 1 rfl) ?_
  refine lv_iadd hx hb dM_cut_5 ?_
  refine lv_topi (fun x_4 ex_4 => ?_)
  have h := op_ks ex_4 h
  refine lv_istore_n (lv' := [(3, .int x_4), (0, .ref h0), (1, .int v1), (2, .int v2)]) hx hb dM_cut_6 rfl hl (by decide) rfl (fun ls hl => ?_)
  refine lv_aload_n hx hb dM_cut_7 rfl (lv_at hl 1 rfl) ?_
  refine va_get (D := D) (ci := 12) (v := .ref (a0 44)) (C := RM) (T := TM) (N := 99) hx hb hts inM hown hK hP 0 rfl rfl 44 (by decide) (hts _ wv_2026) (fun _ h9 => h9) rfl dM_cut_8 ?_
  refine lv_iload_n hx hb dM_cut_11 rfl (lv_at hl 2 rfl) ?_
  obtain ⟨hi_5, h⟩ := op_n h
  refine va_iald (D := D) hx hb hK hP 27 0 rfl rfl hi_5 dM_cut_12 ?_
  refine lv_topi (fun x_6 ex_6 => ?_)
  have h := op_ks ex_6 h
  refine lv_iconst (v := 2) hx hb dM_cut_13 (by decide) ?_
  refine lv_idiv hx hb dM_cut_14 (by decide) ?_
  refine lv_topi (fun x_7 ex_7 => ?_)
  have h := op_ks ex_7 h
  refine lv_istore (lv' := [(4, .int x_7), (3, .int x_4), (0, .ref h0), (1, .int v1), (2, .int v2)]) hx hb dM_cut_15 hl (by decide) rfl (fun ls hl => ?_)
  refine lv_aload_n hx hb dM_cut_17 rfl (lv_at hl 2 rfl) ?_
  refine va_get (D := D) (ci := 12) (v := .ref (a0 45)) (C := RM) (T := TM) (N := 99) hx hb hts inM hown hK hP 0 rfl rfl 45 (by decide) (hts _ wv_2027) (fun _ h9 => h9) rfl dM_cut_18 ?_
  refine lv_iload_n hx hb dM_cut_21 rfl (lv_at hl 3 rfl) ?_
  obtain ⟨hi_8, h⟩ := op_n h
  refine va_iald (D := D) hx hb hK hP 28 0 rfl rfl hi_8 dM_cut_22 ?_
  refine lv_topi (fun x_9 ex_9 => ?_)
  have h := op_ks ex_9 h
  refine lv_iconst (v := 2) hx hb dM_cut_23 (by decide) ?_
  refine lv_idiv hx hb dM_cut_24 (by decide) ?_
  refine lv_topi (fun x_10 ex_10 => ?_)
  have h := op_ks ex_10 h
  refine lv_istore (lv' := [(5, .int x_10), (4, .int x_7), (3, .int x_4), (0, .ref h0), (1, .int v1), (2, .int v2)]) hx hb dM_cut_25 hl (by decide) rfl (fun ls hl => ?_)
  refine lv_aload_n hx hb dM_cut_27 rfl (lv_at hl 3 rfl) ?_
  refine va_get (D := D) (ci := 12) (v := .ref (a0 57)) (C := RM) (T := TM) (N := 99) hx hb hts inM hown hK hP 0 rfl rfl 57 (by decide) (hts _ wv_2039) (fun _ h9 => h9) rfl dM_cut_28 ?_
  refine lv_iload_n hx hb dM_cut_31 rfl (lv_at hl 2 rfl) ?_
  refine lv_iconst (v := 0) hx hb dM_cut_32 (by decide) ?_
  obtain ⟨hi_11, h⟩ := op_n h
  refine va_iast (D := D) hx hb hK hP hD hS 38 0 rfl rfl hi_11 dM_cut_33 (fun H locs hP hD hS => ?_)
  have hP : va_P D vwCl (wM K h0 a0 (xp o0 57 x_4.toNatClampNeg 0)) H := hP
  have hD : va_D A (wM K h0 a0 (xp o0 57 x_4.toNatClampNeg 0)) := hD
  obtain ⟨o_12, eo_12, h⟩ := op_kx h
  rw [← eo_12] at hP hD
  refine lv_iconst (v := 0) hx hb dM_cut_34 (by decide) ?_
  refine lv_istore (lv' := [(6, .int 0), (5, .int x_10), (4, .int x_7), (3, .int x_4), (0, .ref h0), (1, .int v1), (2, .int v2)]) hx hb dM_cut_35 hl (by decide) rfl (fun ls hl => ?_)
  exact (ih.1) _ _ _ _ _ _ _ h hP hD hS (lv_sub hl [4, 6, 3, 2, 1, 0] rfl)
theorem iM_cut {p : Program} {l : Launch} {e : Env} {s : State} {m : MethodId} {below : List Frame} {meth : Method} {c : Code} {A : Nat → Prop} {D : va_G} {K : Nat → ClassId} {h0 : Nat} {a0 : Nat → Nat} {AR : Array Value} (C : (dc_C p s m AR meth c cM_cut 10 (Option.none : Option Jvm.ClassFile.FieldType) yM_cut ∧ cf_E D K A s s.heap ∧ ∀ q, s.heap.size ≤ q → A q)) : ∀ n, IhM_cut p l e s m below meth c A D K h0 a0 AR n := by
  intro n
  induction n with
  | zero => exact ⟨(fun _ _ _ _ _ _ r h => by cases (show none = some r from h)), (fun _ _ _ _ _ _ _ r h => by cases (show none = some r from h)), (fun _ _ _ _ _ _ _ _ r h => by cases (show none = some r from h))⟩
  | succ n ih => exact ⟨fun x0 x1 x2 x3 x4 x5 r h _ _ _ hP hD hS hl => bM_cut_37 C ih x0 x1 x2 x3 x4 x5 r h hP hD hS hl, fun x0 x1 x2 x3 x4 x5 x6 r h _ _ _ hP hD hS hl => bM_cut_51 C ih x0 x1 x2 x3 x4 x5 x6 r h hP hD hS hl, fun x0 x1 x2 x3 x4 x5 x6 x7 r h _ _ _ hP hD hS hl => bM_cut_85 C ih x0 x1 x2 x3 x4 x5 x6 x7 r h hP hD hS hl⟩
set_option maxRecDepth 100000 in
theorem mM_cut (l : Launch) (D : va_G) (K : Nat → ClassId) (sz : Nat) (v1 : Int32) (v2 : Int32) (h0 : Nat) (a0 : Nat → Nat) (o0 : cf_O) (r : cf_O) (h : fM_cut v1 v2 o0 = some r) : Met l yM_cut (Cond.code yM_cut cM_cut 10 (Option.none : Option Jvm.ClassFile.FieldType) :: cfB) ({ frames := 2, cells := 0, slots := 0, locals := 49 }) (va_Pc [.ref h0, .int v1, .int v2] (cf_Pre D K sz (wM K h0 a0 o0))) (va_Qv (fun (_ : Unit) => True) (fun (_ : Unit) t => cf_At D (va_A (wM K h0 a0 o0) sz) (wM K h0 a0 r) t) (va_A (wM K h0 a0 o0) sz)) 0 0 (va_A (wM K h0 a0 o0) sz) := by
  refine cf_ofW (y := yM_cut) (As := [.ref h0, .int v1, .int v2]) (WS := wM K h0 a0 o0) (maxL := 10) (fun A => (va_Qv (fun (_ : Unit) => True) (fun (_ : Unit) t => cf_At D A (wM K h0 a0 r) t) A)) (by decide) (Nat.le_of_ble_eq_true rfl) ?_
  intro p e s m below meth c A ls En hsz hA hP hD hE hS hl
  have C : (dc_C p s m (([.ref h0, .int v1, .int v2] : List Value).toArray) meth c cM_cut 10 (Option.none : Option Jvm.ClassFile.FieldType) yM_cut ∧ cf_E D K A s s.heap ∧ ∀ q, s.heap.size ≤ q → A q) := ⟨En, hE, hA⟩
  exact bM_cut_0 C (iM_cut C cfFU) v1 v2 o0 r h hP hD hS hl

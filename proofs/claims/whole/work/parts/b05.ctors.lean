def yTx_init : MethodName := ⟨"CellForge$Text", "<init>", "()V"⟩
abbrev cTx_init : ByteArray := prog_12_method_1_code
theorem dTx_init_0 : decode cTx_init 0 = .ok (.aload_n 0, 1) := by decide +kernel
theorem dTx_init_1 : decode cTx_init 1 = .ok (.invokespecial 3, 3) := by decide +kernel
theorem dTx_init_4 : decode cTx_init 4 = .ok (.aload_n 0, 1) := by decide +kernel
theorem dTx_init_5 : decode cTx_init 5 = .ok (.sipush 1600, 3) := by decide +kernel
theorem dTx_init_8 : decode cTx_init 8 = .ok (.newarray .byte, 2) := by decide +kernel
theorem dTx_init_10 : decode cTx_init 10 = .ok (.putfield 11, 3) := by decide +kernel
theorem dTx_init_13 : decode cTx_init 13 = .ok (.aload_n 0, 1) := by decide +kernel
theorem dTx_init_14 : decode cTx_init 14 = .ok (.bipush 10, 2) := by decide +kernel
theorem dTx_init_16 : decode cTx_init 16 = .ok (.newarray .int, 2) := by decide +kernel
theorem dTx_init_18 : decode cTx_init 18 = .ok (.putfield 15, 3) := by decide +kernel
theorem dTx_init_21 : decode cTx_init 21 = .ok (.aload_n 0, 1) := by decide +kernel
theorem dTx_init_22 : decode cTx_init 22 = .ok (.bipush 10, 2) := by decide +kernel
theorem dTx_init_24 : decode cTx_init 24 = .ok (.newarray .int, 2) := by decide +kernel
theorem dTx_init_26 : decode cTx_init 26 = .ok (.putfield 19, 3) := by decide +kernel
theorem dTx_init_29 : decode cTx_init 29 = .ok (.return_, 1) := by decide +kernel
theorem wv_204 : Cond.methodLink "CellForge$Text" 3 (⟨"java/lang/Object", "<init>", "()V"⟩ : MethodName) ∈ cfB := cf_in 204 (by decide +kernel) rfl
theorem wv_197 : Cond.instanceMethod (⟨"java/lang/Object", "<init>", "()V"⟩ : MethodName) ∈ cfB := cf_in 197 (by decide +kernel) rfl
theorem wv_198 : Cond.code (⟨"java/lang/Object", "<init>", "()V"⟩ : MethodName) object_method_1_code 1 (Option.none : Option Jvm.ClassFile.FieldType) ∈ cfB := cf_in 198 (by decide +kernel) rfl
theorem wv_232 : Cond.arrayClass Jvm.ClassFile.FieldType.byte ∈ cfB := cf_in 232 (by decide +kernel) rfl
theorem wv_205 : Cond.fieldLink "CellForge$Text" 11 "CellForge$Text" "signs" "[B" ∈ cfB := cf_in 205 (by decide +kernel) rfl
theorem wv_233 : Cond.arrayClass Jvm.ClassFile.FieldType.int ∈ cfB := cf_in 233 (by decide +kernel) rfl
theorem wv_206 : Cond.fieldLink "CellForge$Text" 15 "CellForge$Text" "from" "[I" ∈ cfB := cf_in 206 (by decide +kernel) rfl
theorem wv_207 : Cond.fieldLink "CellForge$Text" 19 "CellForge$Text" "to" "[I" ∈ cfB := cf_in 207 (by decide +kernel) rfl
def yFu_init : MethodName := ⟨"CellForge$Functions", "<init>", "()V"⟩
abbrev cFu_init : ByteArray := prog_5_method_1_code
theorem dFu_init_0 : decode cFu_init 0 = .ok (.aload_n 0, 1) := by decide +kernel
theorem dFu_init_1 : decode cFu_init 1 = .ok (.invokespecial 3, 3) := by decide +kernel
theorem dFu_init_4 : decode cFu_init 4 = .ok (.aload_n 0, 1) := by decide +kernel
theorem dFu_init_5 : decode cFu_init 5 = .ok (.sipush 836, 3) := by decide +kernel
theorem dFu_init_8 : decode cFu_init 8 = .ok (.newarray .long, 2) := by decide +kernel
theorem dFu_init_10 : decode cFu_init 10 = .ok (.putfield 11, 3) := by decide +kernel
theorem dFu_init_13 : decode cFu_init 13 = .ok (.aload_n 0, 1) := by decide +kernel
theorem dFu_init_14 : decode cFu_init 14 = .ok (.sipush 256, 3) := by decide +kernel
theorem dFu_init_17 : decode cFu_init 17 = .ok (.newarray .int, 2) := by decide +kernel
theorem dFu_init_19 : decode cFu_init 19 = .ok (.putfield 15, 3) := by decide +kernel
theorem dFu_init_22 : decode cFu_init 22 = .ok (.aload_n 0, 1) := by decide +kernel
theorem dFu_init_23 : decode cFu_init 23 = .ok (.sipush 128, 3) := by decide +kernel
theorem dFu_init_26 : decode cFu_init 26 = .ok (.newarray .int, 2) := by decide +kernel
theorem dFu_init_28 : decode cFu_init 28 = .ok (.putfield 19, 3) := by decide +kernel
theorem dFu_init_31 : decode cFu_init 31 = .ok (.aload_n 0, 1) := by decide +kernel
theorem dFu_init_32 : decode cFu_init 32 = .ok (.sipush 128, 3) := by decide +kernel
theorem dFu_init_35 : decode cFu_init 35 = .ok (.newarray .int, 2) := by decide +kernel
theorem dFu_init_37 : decode cFu_init 37 = .ok (.putfield 22, 3) := by decide +kernel
theorem dFu_init_40 : decode cFu_init 40 = .ok (.return_, 1) := by decide +kernel
theorem wv_239 : Cond.methodLink "CellForge$Functions" 3 (⟨"java/lang/Object", "<init>", "()V"⟩ : MethodName) ∈ cfB := cf_in 239 (by decide +kernel) rfl
theorem wv_257 : Cond.arrayClass Jvm.ClassFile.FieldType.long ∈ cfB := cf_in 257 (by decide +kernel) rfl
theorem wv_242 : Cond.fieldLink "CellForge$Functions" 11 "CellForge$Functions" "bits" "[J" ∈ cfB := cf_in 242 (by decide +kernel) rfl
theorem wv_243 : Cond.fieldLink "CellForge$Functions" 15 "CellForge$Functions" "parts" "[I" ∈ cfB := cf_in 243 (by decide +kernel) rfl
theorem wv_244 : Cond.fieldLink "CellForge$Functions" 19 "CellForge$Functions" "zeroParts" "[I" ∈ cfB := cf_in 244 (by decide +kernel) rfl
theorem wv_245 : Cond.fieldLink "CellForge$Functions" 22 "CellForge$Functions" "oneParts" "[I" ∈ cfB := cf_in 245 (by decide +kernel) rfl
def yCu_init : MethodName := ⟨"CellForge$Cuts", "<init>", "()V"⟩
abbrev cCu_init : ByteArray := prog_4_method_1_code
theorem dCu_init_0 : decode cCu_init 0 = .ok (.aload_n 0, 1) := by decide +kernel
theorem dCu_init_1 : decode cCu_init 1 = .ok (.invokespecial 3, 3) := by decide +kernel
theorem dCu_init_4 : decode cCu_init 4 = .ok (.aload_n 0, 1) := by decide +kernel
theorem dCu_init_5 : decode cCu_init 5 = .ok (.sipush 209, 3) := by decide +kernel
theorem dCu_init_8 : decode cCu_init 8 = .ok (.newarray .int, 2) := by decide +kernel
theorem dCu_init_10 : decode cCu_init 10 = .ok (.putfield 9, 3) := by decide +kernel
theorem dCu_init_13 : decode cCu_init 13 = .ok (.aload_n 0, 1) := by decide +kernel
theorem dCu_init_14 : decode cCu_init 14 = .ok (.sipush 210, 3) := by decide +kernel
theorem dCu_init_17 : decode cCu_init 17 = .ok (.newarray .int, 2) := by decide +kernel
theorem dCu_init_19 : decode cCu_init 19 = .ok (.putfield 15, 3) := by decide +kernel
theorem dCu_init_22 : decode cCu_init 22 = .ok (.aload_n 0, 1) := by decide +kernel
theorem dCu_init_23 : decode cCu_init 23 = .ok (.sipush 1024, 3) := by decide +kernel
theorem dCu_init_26 : decode cCu_init 26 = .ok (.newarray .long, 2) := by decide +kernel
theorem dCu_init_28 : decode cCu_init 28 = .ok (.putfield 18, 3) := by decide +kernel
theorem dCu_init_31 : decode cCu_init 31 = .ok (.aload_n 0, 1) := by decide +kernel
theorem dCu_init_32 : decode cCu_init 32 = .ok (.sipush 1024, 3) := by decide +kernel
theorem dCu_init_35 : decode cCu_init 35 = .ok (.newarray .long, 2) := by decide +kernel
theorem dCu_init_37 : decode cCu_init 37 = .ok (.putfield 22, 3) := by decide +kernel
theorem dCu_init_40 : decode cCu_init 40 = .ok (.return_, 1) := by decide +kernel
theorem wv_263 : Cond.methodLink "CellForge$Cuts" 3 (⟨"java/lang/Object", "<init>", "()V"⟩ : MethodName) ∈ cfB := cf_in 263 (by decide +kernel) rfl
theorem wv_266 : Cond.fieldLink "CellForge$Cuts" 9 "CellForge$Cuts" "depth" "[I" ∈ cfB := cf_in 266 (by decide +kernel) rfl
theorem wv_268 : Cond.fieldLink "CellForge$Cuts" 15 "CellForge$Cuts" "start" "[I" ∈ cfB := cf_in 268 (by decide +kernel) rfl
theorem wv_270 : Cond.fieldLink "CellForge$Cuts" 18 "CellForge$Cuts" "pool" "[J" ∈ cfB := cf_in 270 (by decide +kernel) rfl
theorem wv_271 : Cond.fieldLink "CellForge$Cuts" 22 "CellForge$Cuts" "marks" "[J" ∈ cfB := cf_in 271 (by decide +kernel) rfl
def yCo_init : MethodName := ⟨"CellForge$Cone", "<init>", "()V"⟩
abbrev cCo_init : ByteArray := prog_2_method_1_code
theorem dCo_init_0 : decode cCo_init 0 = .ok (.aload_n 0, 1) := by decide +kernel
theorem dCo_init_1 : decode cCo_init 1 = .ok (.invokespecial 3, 3) := by decide +kernel
theorem dCo_init_4 : decode cCo_init 4 = .ok (.aload_n 0, 1) := by decide +kernel
theorem dCo_init_5 : decode cCo_init 5 = .ok (.iconst 5, 1) := by decide +kernel
theorem dCo_init_6 : decode cCo_init 6 = .ok (.newarray .int, 2) := by decide +kernel
theorem dCo_init_8 : decode cCo_init 8 = .ok (.putfield 11, 3) := by decide +kernel
theorem dCo_init_11 : decode cCo_init 11 = .ok (.aload_n 0, 1) := by decide +kernel
theorem dCo_init_12 : decode cCo_init 12 = .ok (.sipush 209, 3) := by decide +kernel
theorem dCo_init_15 : decode cCo_init 15 = .ok (.newarray .int, 2) := by decide +kernel
theorem dCo_init_17 : decode cCo_init 17 = .ok (.putfield 17, 3) := by decide +kernel
theorem dCo_init_20 : decode cCo_init 20 = .ok (.aload_n 0, 1) := by decide +kernel
theorem dCo_init_21 : decode cCo_init 21 = .ok (.sipush 209, 3) := by decide +kernel
theorem dCo_init_24 : decode cCo_init 24 = .ok (.newarray .int, 2) := by decide +kernel
theorem dCo_init_26 : decode cCo_init 26 = .ok (.putfield 20, 3) := by decide +kernel
theorem dCo_init_29 : decode cCo_init 29 = .ok (.return_, 1) := by decide +kernel
theorem wv_290 : Cond.methodLink "CellForge$Cone" 3 (⟨"java/lang/Object", "<init>", "()V"⟩ : MethodName) ∈ cfB := cf_in 290 (by decide +kernel) rfl
theorem wv_298 : Cond.fieldLink "CellForge$Cone" 11 "CellForge$Cone" "nodes" "[I" ∈ cfB := cf_in 298 (by decide +kernel) rfl
theorem wv_301 : Cond.fieldLink "CellForge$Cone" 17 "CellForge$Cone" "side" "[I" ∈ cfB := cf_in 301 (by decide +kernel) rfl
theorem wv_302 : Cond.fieldLink "CellForge$Cone" 20 "CellForge$Cone" "values" "[I" ∈ cfB := cf_in 302 (by decide +kernel) rfl
def yCv_init : MethodName := ⟨"CellForge$Cover", "<init>", "()V"⟩
abbrev cCv_init : ByteArray := prog_3_method_1_code
theorem dCv_init_0 : decode cCv_init 0 = .ok (.aload_n 0, 1) := by decide +kernel
theorem dCv_init_1 : decode cCv_init 1 = .ok (.invokespecial 3, 3) := by decide +kernel
theorem dCv_init_4 : decode cCv_init 4 = .ok (.aload_n 0, 1) := by decide +kernel
theorem dCv_init_5 : decode cCv_init 5 = .ok (.sipush 200, 3) := by decide +kernel
theorem dCv_init_8 : decode cCv_init 8 = .ok (.newarray .int, 2) := by decide +kernel
theorem dCv_init_10 : decode cCv_init 10 = .ok (.putfield 9, 3) := by decide +kernel
theorem dCv_init_13 : decode cCv_init 13 = .ok (.aload_n 0, 1) := by decide +kernel
theorem dCv_init_14 : decode cCv_init 14 = .ok (.sipush 200, 3) := by decide +kernel
theorem dCv_init_17 : decode cCv_init 17 = .ok (.newarray .int, 2) := by decide +kernel
theorem dCv_init_19 : decode cCv_init 19 = .ok (.putfield 15, 3) := by decide +kernel
theorem dCv_init_22 : decode cCv_init 22 = .ok (.aload_n 0, 1) := by decide +kernel
theorem dCv_init_23 : decode cCv_init 23 = .ok (.sipush 200, 3) := by decide +kernel
theorem dCv_init_26 : decode cCv_init 26 = .ok (.newarray .int, 2) := by decide +kernel
theorem dCv_init_28 : decode cCv_init 28 = .ok (.putfield 18, 3) := by decide +kernel
theorem dCv_init_31 : decode cCv_init 31 = .ok (.aload_n 0, 1) := by decide +kernel
theorem dCv_init_32 : decode cCv_init 32 = .ok (.sipush 209, 3) := by decide +kernel
theorem dCv_init_35 : decode cCv_init 35 = .ok (.newarray .long, 2) := by decide +kernel
theorem dCv_init_37 : decode cCv_init 37 = .ok (.putfield 21, 3) := by decide +kernel
theorem dCv_init_40 : decode cCv_init 40 = .ok (.aload_n 0, 1) := by decide +kernel
theorem dCv_init_41 : decode cCv_init 41 = .ok (.sipush 209, 3) := by decide +kernel
theorem dCv_init_44 : decode cCv_init 44 = .ok (.newarray .int, 2) := by decide +kernel
theorem dCv_init_46 : decode cCv_init 46 = .ok (.putfield 25, 3) := by decide +kernel
theorem dCv_init_49 : decode cCv_init 49 = .ok (.return_, 1) := by decide +kernel
theorem wv_368 : Cond.methodLink "CellForge$Cover" 3 (⟨"java/lang/Object", "<init>", "()V"⟩ : MethodName) ∈ cfB := cf_in 368 (by decide +kernel) rfl
theorem wv_373 : Cond.fieldLink "CellForge$Cover" 9 "CellForge$Cover" "gates" "[I" ∈ cfB := cf_in 373 (by decide +kernel) rfl
theorem wv_375 : Cond.fieldLink "CellForge$Cover" 15 "CellForge$Cover" "tables" "[I" ∈ cfB := cf_in 375 (by decide +kernel) rfl
theorem wv_377 : Cond.fieldLink "CellForge$Cover" 18 "CellForge$Cover" "depths" "[I" ∈ cfB := cf_in 377 (by decide +kernel) rfl
theorem wv_379 : Cond.fieldLink "CellForge$Cover" 21 "CellForge$Cover" "taken" "[J" ∈ cfB := cf_in 379 (by decide +kernel) rfl
theorem wv_380 : Cond.fieldLink "CellForge$Cover" 25 "CellForge$Cover" "times" "[I" ∈ cfB := cf_in 380 (by decide +kernel) rfl
def yMp_init : MethodName := ⟨"CellForge$Mapping", "<init>", "()V"⟩
abbrev cMp_init : ByteArray := prog_8_method_1_code
theorem dMp_init_0 : decode cMp_init 0 = .ok (.aload_n 0, 1) := by decide +kernel
theorem dMp_init_1 : decode cMp_init 1 = .ok (.invokespecial 5, 3) := by decide +kernel
theorem dMp_init_4 : decode cMp_init 4 = .ok (.aload_n 0, 1) := by decide +kernel
theorem dMp_init_5 : decode cMp_init 5 = .ok (.sipush 418, 3) := by decide +kernel
theorem dMp_init_8 : decode cMp_init 8 = .ok (.newarray .int, 2) := by decide +kernel
theorem dMp_init_10 : decode cMp_init 10 = .ok (.putfield 11, 3) := by decide +kernel
theorem dMp_init_13 : decode cMp_init 13 = .ok (.aload_n 0, 1) := by decide +kernel
theorem dMp_init_14 : decode cMp_init 14 = .ok (.sipush 418, 3) := by decide +kernel
theorem dMp_init_17 : decode cMp_init 17 = .ok (.newarray .long, 2) := by decide +kernel
theorem dMp_init_19 : decode cMp_init 19 = .ok (.putfield 17, 3) := by decide +kernel
theorem dMp_init_22 : decode cMp_init 22 = .ok (.aload_n 0, 1) := by decide +kernel
theorem dMp_init_23 : decode cMp_init 23 = .ok (.sipush 418, 3) := by decide +kernel
theorem dMp_init_26 : decode cMp_init 26 = .ok (.newarray .long, 2) := by decide +kernel
theorem dMp_init_28 : decode cMp_init 28 = .ok (.putfield 21, 3) := by decide +kernel
theorem dMp_init_31 : decode cMp_init 31 = .ok (.aload_n 0, 1) := by decide +kernel
theorem dMp_init_32 : decode cMp_init 32 = .ok (.sipush 418, 3) := by decide +kernel
theorem dMp_init_35 : decode cMp_init 35 = .ok (.newarray .boolean, 2) := by decide +kernel
theorem dMp_init_37 : decode cMp_init 37 = .ok (.putfield 24, 3) := by decide +kernel
theorem dMp_init_40 : decode cMp_init 40 = .ok (.return_, 1) := by decide +kernel
theorem wv_401 : Cond.methodLink "CellForge$Mapping" 5 (⟨"java/lang/Object", "<init>", "()V"⟩ : MethodName) ∈ cfB := cf_in 401 (by decide +kernel) rfl
theorem wv_408 : Cond.fieldLink "CellForge$Mapping" 11 "CellForge$Mapping" "literals" "[I" ∈ cfB := cf_in 408 (by decide +kernel) rfl
theorem wv_410 : Cond.fieldLink "CellForge$Mapping" 17 "CellForge$Mapping" "made" "[J" ∈ cfB := cf_in 410 (by decide +kernel) rfl
theorem wv_412 : Cond.fieldLink "CellForge$Mapping" 21 "CellForge$Mapping" "plain" "[J" ∈ cfB := cf_in 412 (by decide +kernel) rfl
theorem wv_362 : Cond.arrayClass Jvm.ClassFile.FieldType.boolean ∈ cfB := cf_in 362 (by decide +kernel) rfl
theorem wv_413 : Cond.fieldLink "CellForge$Mapping" 24 "CellForge$Mapping" "wanted" "[Z" ∈ cfB := cf_in 413 (by decide +kernel) rfl
def yNl_init : MethodName := ⟨"CellForge$Netlist", "<init>", "()V"⟩
abbrev cNl_init : ByteArray := prog_9_method_1_code
theorem dNl_init_0 : decode cNl_init 0 = .ok (.aload_n 0, 1) := by decide +kernel
theorem dNl_init_1 : decode cNl_init 1 = .ok (.invokespecial 3, 3) := by decide +kernel
theorem dNl_init_4 : decode cNl_init 4 = .ok (.aload_n 0, 1) := by decide +kernel
theorem dNl_init_5 : decode cNl_init 5 = .ok (.bipush 8, 2) := by decide +kernel
theorem dNl_init_7 : decode cNl_init 7 = .ok (.newarray .long, 2) := by decide +kernel
theorem dNl_init_9 : decode cNl_init 9 = .ok (.putfield 9, 3) := by decide +kernel
theorem dNl_init_12 : decode cNl_init 12 = .ok (.aload_n 0, 1) := by decide +kernel
theorem dNl_init_13 : decode cNl_init 13 = .ok (.bipush 6, 2) := by decide +kernel
theorem dNl_init_15 : decode cNl_init 15 = .ok (.newarray .long, 2) := by decide +kernel
theorem dNl_init_17 : decode cNl_init 17 = .ok (.putfield 15, 3) := by decide +kernel
theorem dNl_init_20 : decode cNl_init 20 = .ok (.aload_n 0, 1) := by decide +kernel
theorem dNl_init_21 : decode cNl_init 21 = .ok (.sipush 180, 3) := by decide +kernel
theorem dNl_init_24 : decode cNl_init 24 = .ok (.newarray .long, 2) := by decide +kernel
theorem dNl_init_26 : decode cNl_init 26 = .ok (.putfield 18, 3) := by decide +kernel
theorem dNl_init_29 : decode cNl_init 29 = .ok (.aload_n 0, 1) := by decide +kernel
theorem dNl_init_30 : decode cNl_init 30 = .ok (.bipush 30, 2) := by decide +kernel
theorem dNl_init_32 : decode cNl_init 32 = .ok (.newarray .int, 2) := by decide +kernel
theorem dNl_init_34 : decode cNl_init 34 = .ok (.putfield 21, 3) := by decide +kernel
theorem dNl_init_37 : decode cNl_init 37 = .ok (.aload_n 0, 1) := by decide +kernel
theorem dNl_init_38 : decode cNl_init 38 = .ok (.bipush 30, 2) := by decide +kernel
theorem dNl_init_40 : decode cNl_init 40 = .ok (.newarray .int, 2) := by decide +kernel
theorem dNl_init_42 : decode cNl_init 42 = .ok (.putfield 25, 3) := by decide +kernel
theorem dNl_init_45 : decode cNl_init 45 = .ok (.aload_n 0, 1) := by decide +kernel
theorem dNl_init_46 : decode cNl_init 46 = .ok (.bipush 30, 2) := by decide +kernel
theorem dNl_init_48 : decode cNl_init 48 = .ok (.newarray .int, 2) := by decide +kernel
theorem dNl_init_50 : decode cNl_init 50 = .ok (.putfield 28, 3) := by decide +kernel
theorem dNl_init_53 : decode cNl_init 53 = .ok (.aload_n 0, 1) := by decide +kernel
theorem dNl_init_54 : decode cNl_init 54 = .ok (.bipush 30, 2) := by decide +kernel
theorem dNl_init_56 : decode cNl_init 56 = .ok (.newarray .int, 2) := by decide +kernel
theorem dNl_init_58 : decode cNl_init 58 = .ok (.putfield 31, 3) := by decide +kernel
theorem dNl_init_61 : decode cNl_init 61 = .ok (.aload_n 0, 1) := by decide +kernel
theorem dNl_init_62 : decode cNl_init 62 = .ok (.sipush 480, 3) := by decide +kernel
theorem dNl_init_65 : decode cNl_init 65 = .ok (.newarray .int, 2) := by decide +kernel
theorem dNl_init_67 : decode cNl_init 67 = .ok (.putfield 34, 3) := by decide +kernel
theorem dNl_init_70 : decode cNl_init 70 = .ok (.aload_n 0, 1) := by decide +kernel
theorem dNl_init_71 : decode cNl_init 71 = .ok (.sipush 180, 3) := by decide +kernel
theorem dNl_init_74 : decode cNl_init 74 = .ok (.newarray .int, 2) := by decide +kernel
theorem dNl_init_76 : decode cNl_init 76 = .ok (.putfield 37, 3) := by decide +kernel
theorem dNl_init_79 : decode cNl_init 79 = .ok (.aload_n 0, 1) := by decide +kernel
theorem dNl_init_80 : decode cNl_init 80 = .ok (.bipush 6, 2) := by decide +kernel
theorem dNl_init_82 : decode cNl_init 82 = .ok (.newarray .int, 2) := by decide +kernel
theorem dNl_init_84 : decode cNl_init 84 = .ok (.putfield 40, 3) := by decide +kernel
theorem dNl_init_87 : decode cNl_init 87 = .ok (.aload_n 0, 1) := by decide +kernel
theorem dNl_init_88 : decode cNl_init 88 = .ok (.bipush 30, 2) := by decide +kernel
theorem dNl_init_90 : decode cNl_init 90 = .ok (.newarray .int, 2) := by decide +kernel
theorem dNl_init_92 : decode cNl_init 92 = .ok (.putfield 43, 3) := by decide +kernel
theorem dNl_init_95 : decode cNl_init 95 = .ok (.aload_n 0, 1) := by decide +kernel
theorem dNl_init_96 : decode cNl_init 96 = .ok (.bipush 30, 2) := by decide +kernel
theorem dNl_init_98 : decode cNl_init 98 = .ok (.newarray .int, 2) := by decide +kernel
theorem dNl_init_100 : decode cNl_init 100 = .ok (.putfield 46, 3) := by decide +kernel
theorem dNl_init_103 : decode cNl_init 103 = .ok (.return_, 1) := by decide +kernel
theorem wv_482 : Cond.methodLink "CellForge$Netlist" 3 (⟨"java/lang/Object", "<init>", "()V"⟩ : MethodName) ∈ cfB := cf_in 482 (by decide +kernel) rfl
theorem wv_489 : Cond.fieldLink "CellForge$Netlist" 9 "CellForge$Netlist" "inputNames" "[J" ∈ cfB := cf_in 489 (by decide +kernel) rfl
theorem wv_491 : Cond.fieldLink "CellForge$Netlist" 15 "CellForge$Netlist" "outputNames" "[J" ∈ cfB := cf_in 491 (by decide +kernel) rfl
theorem wv_495 : Cond.fieldLink "CellForge$Netlist" 18 "CellForge$Netlist" "names" "[J" ∈ cfB := cf_in 495 (by decide +kernel) rfl
theorem wv_496 : Cond.fieldLink "CellForge$Netlist" 21 "CellForge$Netlist" "widths" "[I" ∈ cfB := cf_in 496 (by decide +kernel) rfl
theorem wv_497 : Cond.fieldLink "CellForge$Netlist" 25 "CellForge$Netlist" "lines" "[I" ∈ cfB := cf_in 497 (by decide +kernel) rfl
theorem wv_498 : Cond.fieldLink "CellForge$Netlist" 28 "CellForge$Netlist" "rowCounts" "[I" ∈ cfB := cf_in 498 (by decide +kernel) rfl
theorem wv_499 : Cond.fieldLink "CellForge$Netlist" 31 "CellForge$Netlist" "rowEnds" "[I" ∈ cfB := cf_in 499 (by decide +kernel) rfl
theorem wv_500 : Cond.fieldLink "CellForge$Netlist" 34 "CellForge$Netlist" "rows" "[I" ∈ cfB := cf_in 500 (by decide +kernel) rfl
theorem wv_501 : Cond.fieldLink "CellForge$Netlist" 37 "CellForge$Netlist" "sources" "[I" ∈ cfB := cf_in 501 (by decide +kernel) rfl
theorem wv_502 : Cond.fieldLink "CellForge$Netlist" 40 "CellForge$Netlist" "outputSources" "[I" ∈ cfB := cf_in 502 (by decide +kernel) rfl
theorem wv_503 : Cond.fieldLink "CellForge$Netlist" 43 "CellForge$Netlist" "reached" "[I" ∈ cfB := cf_in 503 (by decide +kernel) rfl
theorem wv_504 : Cond.fieldLink "CellForge$Netlist" 46 "CellForge$Netlist" "literals" "[I" ∈ cfB := cf_in 504 (by decide +kernel) rfl
def yGr_init : MethodName := ⟨"CellForge$Graph", "<init>", "()V"⟩
abbrev cGr_init : ByteArray := prog_6_method_1_code
theorem dGr_init_0 : decode cGr_init 0 = .ok (.aload_n 0, 1) := by decide +kernel
theorem dGr_init_1 : decode cGr_init 1 = .ok (.invokespecial 3, 3) := by decide +kernel
theorem dGr_init_4 : decode cGr_init 4 = .ok (.aload_n 0, 1) := by decide +kernel
theorem dGr_init_5 : decode cGr_init 5 = .ok (.sipush 209, 3) := by decide +kernel
theorem dGr_init_8 : decode cGr_init 8 = .ok (.newarray .int, 2) := by decide +kernel
theorem dGr_init_10 : decode cGr_init 10 = .ok (.putfield 9, 3) := by decide +kernel
theorem dGr_init_13 : decode cGr_init 13 = .ok (.aload_n 0, 1) := by decide +kernel
theorem dGr_init_14 : decode cGr_init 14 = .ok (.sipush 209, 3) := by decide +kernel
theorem dGr_init_17 : decode cGr_init 17 = .ok (.newarray .int, 2) := by decide +kernel
theorem dGr_init_19 : decode cGr_init 19 = .ok (.putfield 15, 3) := by decide +kernel
theorem dGr_init_22 : decode cGr_init 22 = .ok (.aload_n 0, 1) := by decide +kernel
theorem dGr_init_23 : decode cGr_init 23 = .ok (.sipush 209, 3) := by decide +kernel
theorem dGr_init_26 : decode cGr_init 26 = .ok (.newarray .int, 2) := by decide +kernel
theorem dGr_init_28 : decode cGr_init 28 = .ok (.putfield 18, 3) := by decide +kernel
theorem dGr_init_31 : decode cGr_init 31 = .ok (.aload_n 0, 1) := by decide +kernel
theorem dGr_init_32 : decode cGr_init 32 = .ok (.bipush 6, 2) := by decide +kernel
theorem dGr_init_34 : decode cGr_init 34 = .ok (.newarray .int, 2) := by decide +kernel
theorem dGr_init_36 : decode cGr_init 36 = .ok (.putfield 21, 3) := by decide +kernel
theorem dGr_init_39 : decode cGr_init 39 = .ok (.aload_n 0, 1) := by decide +kernel
theorem dGr_init_40 : decode cGr_init 40 = .ok (.sipush 418, 3) := by decide +kernel
theorem dGr_init_43 : decode cGr_init 43 = .ok (.newarray .int, 2) := by decide +kernel
theorem dGr_init_45 : decode cGr_init 45 = .ok (.putfield 24, 3) := by decide +kernel
theorem dGr_init_48 : decode cGr_init 48 = .ok (.aload_n 0, 1) := by decide +kernel
theorem dGr_init_49 : decode cGr_init 49 = .ok (.sipush 209, 3) := by decide +kernel
theorem dGr_init_52 : decode cGr_init 52 = .ok (.newarray .int, 2) := by decide +kernel
theorem dGr_init_54 : decode cGr_init 54 = .ok (.putfield 27, 3) := by decide +kernel
theorem dGr_init_57 : decode cGr_init 57 = .ok (.return_, 1) := by decide +kernel
theorem wv_545 : Cond.methodLink "CellForge$Graph" 3 (⟨"java/lang/Object", "<init>", "()V"⟩ : MethodName) ∈ cfB := cf_in 545 (by decide +kernel) rfl
theorem wv_560 : Cond.fieldLink "CellForge$Graph" 9 "CellForge$Graph" "low" "[I" ∈ cfB := cf_in 560 (by decide +kernel) rfl
theorem wv_566 : Cond.fieldLink "CellForge$Graph" 15 "CellForge$Graph" "high" "[I" ∈ cfB := cf_in 566 (by decide +kernel) rfl
theorem wv_572 : Cond.fieldLink "CellForge$Graph" 18 "CellForge$Graph" "level" "[I" ∈ cfB := cf_in 572 (by decide +kernel) rfl
theorem wv_575 : Cond.fieldLink "CellForge$Graph" 21 "CellForge$Graph" "results" "[I" ∈ cfB := cf_in 575 (by decide +kernel) rfl
theorem wv_581 : Cond.fieldLink "CellForge$Graph" 24 "CellForge$Graph" "first" "[I" ∈ cfB := cf_in 581 (by decide +kernel) rfl
theorem wv_582 : Cond.fieldLink "CellForge$Graph" 27 "CellForge$Graph" "chain" "[I" ∈ cfB := cf_in 582 (by decide +kernel) rfl
def yLi_init : MethodName := ⟨"CellForge$Library", "<init>", "()V"⟩
abbrev cLi_init : ByteArray := prog_7_method_1_code
theorem dLi_init_0 : decode cLi_init 0 = .ok (.aload_n 0, 1) := by decide +kernel
theorem dLi_init_1 : decode cLi_init 1 = .ok (.invokespecial 5, 3) := by decide +kernel
theorem dLi_init_4 : decode cLi_init 4 = .ok (.aload_n 0, 1) := by decide +kernel
theorem dLi_init_5 : decode cLi_init 5 = .ok (.bipush 12, 2) := by decide +kernel
theorem dLi_init_7 : decode cLi_init 7 = .ok (.newarray .long, 2) := by decide +kernel
theorem dLi_init_9 : decode cLi_init 9 = .ok (.putfield 11, 3) := by decide +kernel
theorem dLi_init_12 : decode cLi_init 12 = .ok (.aload_n 0, 1) := by decide +kernel
theorem dLi_init_13 : decode cLi_init 13 = .ok (.bipush 12, 2) := by decide +kernel
theorem dLi_init_15 : decode cLi_init 15 = .ok (.newarray .int, 2) := by decide +kernel
theorem dLi_init_17 : decode cLi_init 17 = .ok (.putfield 15, 3) := by decide +kernel
theorem dLi_init_20 : decode cLi_init 20 = .ok (.aload_n 0, 1) := by decide +kernel
theorem dLi_init_21 : decode cLi_init 21 = .ok (.bipush 12, 2) := by decide +kernel
theorem dLi_init_23 : decode cLi_init 23 = .ok (.newarray .int, 2) := by decide +kernel
theorem dLi_init_25 : decode cLi_init 25 = .ok (.putfield 19, 3) := by decide +kernel
theorem dLi_init_28 : decode cLi_init 28 = .ok (.aload_n 0, 1) := by decide +kernel
theorem dLi_init_29 : decode cLi_init 29 = .ok (.bipush 12, 2) := by decide +kernel
theorem dLi_init_31 : decode cLi_init 31 = .ok (.newarray .int, 2) := by decide +kernel
theorem dLi_init_33 : decode cLi_init 33 = .ok (.putfield 22, 3) := by decide +kernel
theorem dLi_init_36 : decode cLi_init 36 = .ok (.aload_n 0, 1) := by decide +kernel
theorem dLi_init_37 : decode cLi_init 37 = .ok (.bipush 12, 2) := by decide +kernel
theorem dLi_init_39 : decode cLi_init 39 = .ok (.newarray .int, 2) := by decide +kernel
theorem dLi_init_41 : decode cLi_init 41 = .ok (.putfield 25, 3) := by decide +kernel
theorem dLi_init_44 : decode cLi_init 44 = .ok (.aload_n 0, 1) := by decide +kernel
theorem dLi_init_45 : decode cLi_init 45 = .ok (.sipush 576, 3) := by decide +kernel
theorem dLi_init_48 : decode cLi_init 48 = .ok (.newarray .int, 2) := by decide +kernel
theorem dLi_init_50 : decode cLi_init 50 = .ok (.putfield 28, 3) := by decide +kernel
theorem dLi_init_53 : decode cLi_init 53 = .ok (.aload_n 0, 1) := by decide +kernel
theorem dLi_init_54 : decode cLi_init 54 = .ok (.sipush 576, 3) := by decide +kernel
theorem dLi_init_57 : decode cLi_init 57 = .ok (.newarray .int, 2) := by decide +kernel
theorem dLi_init_59 : decode cLi_init 59 = .ok (.putfield 31, 3) := by decide +kernel
theorem dLi_init_62 : decode cLi_init 62 = .ok (.aload_n 0, 1) := by decide +kernel
theorem dLi_init_63 : decode cLi_init 63 = .ok (.sipush 576, 3) := by decide +kernel
theorem dLi_init_66 : decode cLi_init 66 = .ok (.newarray .int, 2) := by decide +kernel
theorem dLi_init_68 : decode cLi_init 68 = .ok (.putfield 34, 3) := by decide +kernel
theorem dLi_init_71 : decode cLi_init 71 = .ok (.aload_n 0, 1) := by decide +kernel
theorem dLi_init_72 : decode cLi_init 72 = .ok (.sipush 512, 3) := by decide +kernel
theorem dLi_init_75 : decode cLi_init 75 = .ok (.newarray .int, 2) := by decide +kernel
theorem dLi_init_77 : decode cLi_init 77 = .ok (.putfield 37, 3) := by decide +kernel
theorem dLi_init_80 : decode cLi_init 80 = .ok (.return_, 1) := by decide +kernel
theorem wv_609 : Cond.methodLink "CellForge$Library" 5 (⟨"java/lang/Object", "<init>", "()V"⟩ : MethodName) ∈ cfB := cf_in 609 (by decide +kernel) rfl
theorem wv_614 : Cond.fieldLink "CellForge$Library" 11 "CellForge$Library" "names" "[J" ∈ cfB := cf_in 614 (by decide +kernel) rfl
theorem wv_616 : Cond.fieldLink "CellForge$Library" 15 "CellForge$Library" "areas" "[I" ∈ cfB := cf_in 616 (by decide +kernel) rfl
theorem wv_619 : Cond.fieldLink "CellForge$Library" 19 "CellForge$Library" "delays" "[I" ∈ cfB := cf_in 619 (by decide +kernel) rfl
theorem wv_622 : Cond.fieldLink "CellForge$Library" 22 "CellForge$Library" "pins" "[I" ∈ cfB := cf_in 622 (by decide +kernel) rfl
theorem wv_625 : Cond.fieldLink "CellForge$Library" 25 "CellForge$Library" "tables" "[I" ∈ cfB := cf_in 625 (by decide +kernel) rfl
theorem wv_628 : Cond.fieldLink "CellForge$Library" 28 "CellForge$Library" "wayCells" "[I" ∈ cfB := cf_in 628 (by decide +kernel) rfl
theorem wv_630 : Cond.fieldLink "CellForge$Library" 31 "CellForge$Library" "wayPlaces" "[I" ∈ cfB := cf_in 630 (by decide +kernel) rfl
theorem wv_632 : Cond.fieldLink "CellForge$Library" 34 "CellForge$Library" "chain" "[I" ∈ cfB := cf_in 632 (by decide +kernel) rfl
theorem wv_634 : Cond.fieldLink "CellForge$Library" 37 "CellForge$Library" "first" "[I" ∈ cfB := cf_in 634 (by decide +kernel) rfl
set_option maxHeartbeats 4000000 in
set_option maxRecDepth 100000 in
theorem kTx_init (l : Launch) (D : va_G) (K : Nat → ClassId) (sz : Nat) (h0 : Nat) : Met l yTx_init (Cond.code yTx_init cTx_init 1 (Option.none : Option Jvm.ClassFile.FieldType) :: cfB) ({ frames := 1, cells := 3, slots := 1620, locals := 16 }) (va_Pc [.ref h0] (cf_Pre D K sz [(h0, .inr (1, [.null, .null, .null, .int 0, .int 0, .int 0, .int 0]))])) (va_Qv (fun (u : Nat × Nat × Nat) => True) (fun (u : Nat × Nat × Nat) t => cf_At D (va_A [(h0, .inr (1, [.null, .null, .null, .int 0, .int 0, .int 0, .int 0]))] sz) [(h0, .inr (1, [.ref u.1, .ref u.2.1, .ref u.2.2, .int 0, .int 0, .int 0, .int 0])), (u.1, .inl (K 2, 1600, .inl (fun _ => 0))), (u.2.1, .inl (K 0, 10, .inl (fun _ => 0))), (u.2.2, .inl (K 0, 10, .inl (fun _ => 0)))] t) (va_A [(h0, .inr (1, [.null, .null, .null, .int 0, .int 0, .int 0, .int 0]))] sz)) 3 1620 (va_A [(h0, .inr (1, [.null, .null, .null, .int 0, .int 0, .int 0, .int 0]))] sz) := by
  refine cf_ofW (y := yTx_init) (As := [.ref h0]) (WS := [(h0, .inr (1, [.null, .null, .null, .int 0, .int 0, .int 0, .int 0]))]) (maxL := 1) (fun A => (va_Qv (fun (u : Nat × Nat × Nat) => True) (fun (u : Nat × Nat × Nat) t => cf_At D A [(h0, .inr (1, [.ref u.1, .ref u.2.1, .ref u.2.2, .int 0, .int 0, .int 0, .int 0])), (u.1, .inl (K 2, 1600, .inl (fun _ => 0))), (u.2.1, .inl (K 0, 10, .inl (fun _ => 0))), (u.2.2, .inl (K 0, 10, .inl (fun _ => 0)))] t) A)) (by decide) (Nat.le_of_ble_eq_true rfl) ?_
  intro p e s m below meth c A ls En hsz hA hP hD hE hS hl
  obtain ⟨hx, hb, hr, hts, hown, hlocks, hin, hml⟩ := En
  have hK := hE.k
  have hl : lv_has ls 1 [(0, .ref h0)] := hl
  refine lv_aload_n hx hb dTx_init_0 rfl (lv_at hl 0 rfl) ?_
  refine W.objInit hx hb hown (hts _ wv_204) (hts _ wv_197) (hts _ wv_198) rfl (by rw [hml]; exact hl.1) rfl dTx_init_1 (Nat.le_of_ble_eq_true rfl) (Nat.le_of_ble_eq_true rfl) ?_
  refine W.eq (g2 := F0 m 4 ls []) rfl ?_
  refine lv_aload_n hx hb dTx_init_4 rfl (lv_at hl 0 rfl) ?_
  refine lv_sipush (v := 1600) hx hb dTx_init_5 (by decide) ?_
  refine cf_newa (D := D) (ty := .byte) (N' := 1600) (a0 := (1600, .inl (fun _ => 0))) hx hb (hts _ wv_232) rfl (fun _ h => h) hK 2 rfl hP hD hS hA (fun _ => rfl) (by decide) (by decide) (by decide) (Nat.le_of_ble_eq_true rfl) (Nat.le_of_ble_eq_true rfl) dTx_init_8 (fun q_1 H hP hD hS => ?_)
  refine W.widen (k := 1) (n := 1600) (Nat.le_of_ble_eq_true rfl) (Nat.le_of_ble_eq_true rfl) ?_
  refine va_putF (D := D) (ci := 1) (v := .ref q_1) (ty := (.array .byte)) (C := RTx) (T := TTx) (N := 7) hx hb hts inTx tyTx tyokTx nmTx hown hK hP hD hS 0 rfl rfl 0 (by decide) (hts _ wv_205) (fun _ h9 => h9) rfl hin rfl (by decide +kernel) rfl rfl (Nat.le_of_ble_eq_true rfl) dTx_init_10 (fun H locs hP hD hS => ?_)
  have hP : va_P D vwCl [(h0, .inr (1, [.ref q_1, .null, .null, .int 0, .int 0, .int 0, .int 0])), (q_1, .inl (K 2, 1600, .inl (fun _ => 0)))] H := hP
  have hD : va_D A [(h0, .inr (1, [.ref q_1, .null, .null, .int 0, .int 0, .int 0, .int 0])), (q_1, .inl (K 2, 1600, .inl (fun _ => 0)))] := hD
  refine lv_aload_n hx hb dTx_init_13 rfl (lv_at hl 0 rfl) ?_
  refine lv_bipush (v := 10) hx hb dTx_init_14 (by decide) ?_
  refine cf_newa (D := D) (ty := .int) (N' := 10) (a0 := (10, .inl (fun _ => 0))) hx hb (hts _ wv_233) rfl (fun _ h => h) hK 0 rfl hP hD hS hA (fun _ => rfl) (by decide) (by decide) (by decide) (Nat.le_of_ble_eq_true rfl) (Nat.le_of_ble_eq_true rfl) dTx_init_16 (fun q_2 H hP hD hS => ?_)
  refine W.widen (k := 2) (n := 1610) (Nat.le_of_ble_eq_true rfl) (Nat.le_of_ble_eq_true rfl) ?_
  refine va_putF (D := D) (ci := 1) (v := .ref q_2) (ty := (.array .int)) (C := RTx) (T := TTx) (N := 7) hx hb hts inTx tyTx tyokTx nmTx hown hK hP hD hS 0 rfl rfl 1 (by decide) (hts _ wv_206) (fun _ h9 => h9) rfl hin rfl (by decide +kernel) rfl rfl (Nat.le_of_ble_eq_true rfl) dTx_init_18 (fun H locs hP hD hS => ?_)
  have hP : va_P D vwCl [(h0, .inr (1, [.ref q_1, .ref q_2, .null, .int 0, .int 0, .int 0, .int 0])), (q_1, .inl (K 2, 1600, .inl (fun _ => 0))), (q_2, .inl (K 0, 10, .inl (fun _ => 0)))] H := hP
  have hD : va_D A [(h0, .inr (1, [.ref q_1, .ref q_2, .null, .int 0, .int 0, .int 0, .int 0])), (q_1, .inl (K 2, 1600, .inl (fun _ => 0))), (q_2, .inl (K 0, 10, .inl (fun _ => 0)))] := hD
  refine lv_aload_n hx hb dTx_init_21 rfl (lv_at hl 0 rfl) ?_
  refine lv_bipush (v := 10) hx hb dTx_init_22 (by decide) ?_
  refine cf_newa (D := D) (ty := .int) (N' := 10) (a0 := (10, .inl (fun _ => 0))) hx hb (hts _ wv_233) rfl (fun _ h => h) hK 0 rfl hP hD hS hA (fun _ => rfl) (by decide) (by decide) (by decide) (Nat.le_of_ble_eq_true rfl) (Nat.le_of_ble_eq_true rfl) dTx_init_24 (fun q_3 H hP hD hS => ?_)
  refine W.widen (k := 3) (n := 1620) (Nat.le_of_ble_eq_true rfl) (Nat.le_of_ble_eq_true rfl) ?_
  refine va_putF (D := D) (ci := 1) (v := .ref q_3) (ty := (.array .int)) (C := RTx) (T := TTx) (N := 7) hx hb hts inTx tyTx tyokTx nmTx hown hK hP hD hS 0 rfl rfl 2 (by decide) (hts _ wv_207) (fun _ h9 => h9) rfl hin rfl (by decide +kernel) rfl rfl (Nat.le_of_ble_eq_true rfl) dTx_init_26 (fun H locs hP hD hS => ?_)
  have hP : va_P D vwCl [(h0, .inr (1, [.ref q_1, .ref q_2, .ref q_3, .int 0, .int 0, .int 0, .int 0])), (q_1, .inl (K 2, 1600, .inl (fun _ => 0))), (q_2, .inl (K 0, 10, .inl (fun _ => 0))), (q_3, .inl (K 0, 10, .inl (fun _ => 0)))] H := hP
  have hD : va_D A [(h0, .inr (1, [.ref q_1, .ref q_2, .ref q_3, .int 0, .int 0, .int 0, .int 0])), (q_1, .inl (K 2, 1600, .inl (fun _ => 0))), (q_2, .inl (K 0, 10, .inl (fun _ => 0))), (q_3, .inl (K 0, 10, .inl (fun _ => 0)))] := hD
  exact cf_vret hx hb hr hlocks (q_1, q_2, q_3) trivial hP hD hS [0, 1, 2, 3] rfl (by decide +kernel) (Nat.le_of_ble_eq_true rfl) (Nat.le_of_ble_eq_true rfl) dTx_init_29
set_option maxHeartbeats 4000000 in
set_option maxRecDepth 100000 in
theorem kFu_init (l : Launch) (D : va_G) (K : Nat → ClassId) (sz : Nat) (h0 : Nat) : Met l yFu_init (Cond.code yFu_init cFu_init 1 (Option.none : Option Jvm.ClassFile.FieldType) :: cfB) ({ frames := 1, cells := 4, slots := 1348, locals := 16 }) (va_Pc [.ref h0] (cf_Pre D K sz [(h0, .inr (4, [.int 0, .null, .null, .null, .null]))])) (va_Qv (fun (u : Nat → Nat) => True) (fun (u : Nat → Nat) t => cf_At D (va_A [(h0, .inr (4, [.int 0, .null, .null, .null, .null]))] sz) [(h0, .inr (4, [.int 0, .ref (u 0), .ref (u 1), .ref (u 2), .ref (u 3)])), ((u 0), .inl (K 1, 836, .inr (.inl (fun _ => 0)))), ((u 1), .inl (K 0, 256, .inl (fun _ => 0))), ((u 2), .inl (K 0, 128, .inl (fun _ => 0))), ((u 3), .inl (K 0, 128, .inl (fun _ => 0)))] t) (va_A [(h0, .inr (4, [.int 0, .null, .null, .null, .null]))] sz)) 4 1348 (va_A [(h0, .inr (4, [.int 0, .null, .null, .null, .null]))] sz) := by
  refine cf_ofW (y := yFu_init) (As := [.ref h0]) (WS := [(h0, .inr (4, [.int 0, .null, .null, .null, .null]))]) (maxL := 1) (fun A => (va_Qv (fun (u : Nat → Nat) => True) (fun (u : Nat → Nat) t => cf_At D A [(h0, .inr (4, [.int 0, .ref (u 0), .ref (u 1), .ref (u 2), .ref (u 3)])), ((u 0), .inl (K 1, 836, .inr (.inl (fun _ => 0)))), ((u 1), .inl (K 0, 256, .inl (fun _ => 0))), ((u 2), .inl (K 0, 128, .inl (fun _ => 0))), ((u 3), .inl (K 0, 128, .inl (fun _ => 0)))] t) A)) (by decide) (Nat.le_of_ble_eq_true rfl) ?_
  intro p e s m below meth c A ls En hsz hA hP hD hE hS hl
  obtain ⟨hx, hb, hr, hts, hown, hlocks, hin, hml⟩ := En
  have hK := hE.k
  have hl : lv_has ls 1 [(0, .ref h0)] := hl
  refine lv_aload_n hx hb dFu_init_0 rfl (lv_at hl 0 rfl) ?_
  refine W.objInit hx hb hown (hts _ wv_239) (hts _ wv_197) (hts _ wv_198) rfl (by rw [hml]; exact hl.1) rfl dFu_init_1 (Nat.le_of_ble_eq_true rfl) (Nat.le_of_ble_eq_true rfl) ?_
  refine W.eq (g2 := F0 m 4 ls []) rfl ?_
  refine lv_aload_n hx hb dFu_init_4 rfl (lv_at hl 0 rfl) ?_
  refine lv_sipush (v := 836) hx hb dFu_init_5 (by decide) ?_
  refine cf_newa (D := D) (ty := .long) (N' := 836) (a0 := (836, .inr (.inl (fun _ => 0)))) hx hb (hts _ wv_257) rfl (fun _ h => h) hK 1 rfl hP hD hS hA (fun _ => rfl) (by decide) (by decide) (by decide) (Nat.le_of_ble_eq_true rfl) (Nat.le_of_ble_eq_true rfl) dFu_init_8 (fun q_1 H hP hD hS => ?_)
  refine W.widen (k := 1) (n := 836) (Nat.le_of_ble_eq_true rfl) (Nat.le_of_ble_eq_true rfl) ?_
  refine va_putF (D := D) (ci := 4) (v := .ref q_1) (ty := (.array .long)) (C := RFu) (T := TFu) (N := 5) hx hb hts inFu tyFu tyokFu nmFu hown hK hP hD hS 0 rfl rfl 1 (by decide) (hts _ wv_242) (fun _ h9 => h9) rfl hin rfl (by decide +kernel) rfl rfl (Nat.le_of_ble_eq_true rfl) dFu_init_10 (fun H locs hP hD hS => ?_)
  have hP : va_P D vwCl [(h0, .inr (4, [.int 0, .ref q_1, .null, .null, .null])), (q_1, .inl (K 1, 836, .inr (.inl (fun _ => 0))))] H := hP
  have hD : va_D A [(h0, .inr (4, [.int 0, .ref q_1, .null, .null, .null])), (q_1, .inl (K 1, 836, .inr (.inl (fun _ => 0))))] := hD
  refine lv_aload_n hx hb dFu_init_13 rfl (lv_at hl 0 rfl) ?_
  refine lv_sipush (v := 256) hx hb dFu_init_14 (by decide) ?_
  refine cf_newa (D := D) (ty := .int) (N' := 256) (a0 := (256, .inl (fun _ => 0))) hx hb (hts _ wv_233) rfl (fun _ h => h) hK 0 rfl hP hD hS hA (fun _ => rfl) (by decide) (by decide) (by decide) (Nat.le_of_ble_eq_true rfl) (Nat.le_of_ble_eq_true rfl) dFu_init_17 (fun q_2 H hP hD hS => ?_)
  refine W.widen (k := 2) (n := 1092) (Nat.le_of_ble_eq_true rfl) (Nat.le_of_ble_eq_true rfl) ?_
  refine va_putF (D := D) (ci := 4) (v := .ref q_2) (ty := (.array .int)) (C := RFu) (T := TFu) (N := 5) hx hb hts inFu tyFu tyokFu nmFu hown hK hP hD hS 0 rfl rfl 2 (by decide) (hts _ wv_243) (fun _ h9 => h9) rfl hin rfl (by decide +kernel) rfl rfl (Nat.le_of_ble_eq_true rfl) dFu_init_19 (fun H locs hP hD hS => ?_)
  have hP : va_P D vwCl [(h0, .inr (4, [.int 0, .ref q_1, .ref q_2, .null, .null])), (q_1, .inl (K 1, 836, .inr (.inl (fun _ => 0)))), (q_2, .inl (K 0, 256, .inl (fun _ => 0)))] H := hP
  have hD : va_D A [(h0, .inr (4, [.int 0, .ref q_1, .ref q_2, .null, .null])), (q_1, .inl (K 1, 836, .inr (.inl (fun _ => 0)))), (q_2, .inl (K 0, 256, .inl (fun _ => 0)))] := hD
  refine lv_aload_n hx hb dFu_init_22 rfl (lv_at hl 0 rfl) ?_
  refine lv_sipush (v := 128) hx hb dFu_init_23 (by decide) ?_
  refine cf_newa (D := D) (ty := .int) (N' := 128) (a0 := (128, .inl (fun _ => 0))) hx hb (hts _ wv_233) rfl (fun _ h => h) hK 0 rfl hP hD hS hA (fun _ => rfl) (by decide) (by decide) (by decide) (Nat.le_of_ble_eq_true rfl) (Nat.le_of_ble_eq_true rfl) dFu_init_26 (fun q_3 H hP hD hS => ?_)
  refine W.widen (k := 3) (n := 1220) (Nat.le_of_ble_eq_true rfl) (Nat.le_of_ble_eq_true rfl) ?_
  refine va_putF (D := D) (ci := 4) (v := .ref q_3) (ty := (.array .int)) (C := RFu) (T := TFu) (N := 5) hx hb hts inFu tyFu tyokFu nmFu hown hK hP hD hS 0 rfl rfl 3 (by decide) (hts _ wv_244) (fun _ h9 => h9) rfl hin rfl (by decide +kernel) rfl rfl (Nat.le_of_ble_eq_true rfl) dFu_init_28 (fun H locs hP hD hS => ?_)
  have hP : va_P D vwCl [(h0, .inr (4, [.int 0, .ref q_1, .ref q_2, .ref q_3, .null])), (q_1, .inl (K 1, 836, .inr (.inl (fun _ => 0)))), (q_2, .inl (K 0, 256, .inl (fun _ => 0))), (q_3, .inl (K 0, 128, .inl (fun _ => 0)))] H := hP
  have hD : va_D A [(h0, .inr (4, [.int 0, .ref q_1, .ref q_2, .ref q_3, .null])), (q_1, .inl (K 1, 836, .inr (.inl (fun _ => 0)))), (q_2, .inl (K 0, 256, .inl (fun _ => 0))), (q_3, .inl (K 0, 128, .inl (fun _ => 0)))] := hD
  refine lv_aload_n hx hb dFu_init_31 rfl (lv_at hl 0 rfl) ?_
  refine lv_sipush (v := 128) hx hb dFu_init_32 (by decide) ?_
  refine cf_newa (D := D) (ty := .int) (N' := 128) (a0 := (128, .inl (fun _ => 0))) hx hb (hts _ wv_233) rfl (fun _ h => h) hK 0 rfl hP hD hS hA (fun _ => rfl) (by decide) (by decide) (by decide) (Nat.le_of_ble_eq_true rfl) (Nat.le_of_ble_eq_true rfl) dFu_init_35 (fun q_4 H hP hD hS => ?_)
  refine W.widen (k := 4) (n := 1348) (Nat.le_of_ble_eq_true rfl) (Nat.le_of_ble_eq_true rfl) ?_
  refine va_putF (D := D) (ci := 4) (v := .ref q_4) (ty := (.array .int)) (C := RFu) (T := TFu) (N := 5) hx hb hts inFu tyFu tyokFu nmFu hown hK hP hD hS 0 rfl rfl 4 (by decide) (hts _ wv_245) (fun _ h9 => h9) rfl hin rfl (by decide +kernel) rfl rfl (Nat.le_of_ble_eq_true rfl) dFu_init_37 (fun H locs hP hD hS => ?_)
  have hP : va_P D vwCl [(h0, .inr (4, [.int 0, .ref q_1, .ref q_2, .ref q_3, .ref q_4])), (q_1, .inl (K 1, 836, .inr (.inl (fun _ => 0)))), (q_2, .inl (K 0, 256, .inl (fun _ => 0))), (q_3, .inl (K 0, 128, .inl (fun _ => 0))), (q_4, .inl (K 0, 128, .inl (fun _ => 0)))] H := hP
  have hD : va_D A [(h0, .inr (4, [.int 0, .ref q_1, .ref q_2, .ref q_3, .ref q_4])), (q_1, .inl (K 1, 836, .inr (.inl (fun _ => 0)))), (q_2, .inl (K 0, 256, .inl (fun _ => 0))), (q_3, .inl (K 0, 128, .inl (fun _ => 0))), (q_4, .inl (K 0, 128, .inl (fun _ => 0)))] := hD
  exact cf_vret hx hb hr hlocks (fun k => ([q_1, q_2, q_3, q_4] : List Nat).getD k 0) trivial hP hD hS [0, 1, 2, 3, 4] rfl (by decide +kernel) (Nat.le_of_ble_eq_true rfl) (Nat.le_of_ble_eq_true rfl) dFu_init_40
set_option maxHeartbeats 4000000 in
set_option maxRecDepth 100000 in
theorem kCu_init (l : Launch) (D : va_G) (K : Nat → ClassId) (sz : Nat) (h0 : Nat) : Met l yCu_init (Cond.code yCu_init cCu_init 1 (Option.none : Option Jvm.ClassFile.FieldType) :: cfB) ({ frames := 1, cells := 4, slots := 2467, locals := 16 }) (va_Pc [.ref h0] (cf_Pre D K sz [(h0, .inr (5, [.int 0, .null, .null, .int 0, .null, .null]))])) (va_Qv (fun (u : Nat → Nat) => True) (fun (u : Nat → Nat) t => cf_At D (va_A [(h0, .inr (5, [.int 0, .null, .null, .int 0, .null, .null]))] sz) [(h0, .inr (5, [.int 0, .ref (u 0), .ref (u 1), .int 0, .ref (u 2), .ref (u 3)])), ((u 0), .inl (K 0, 209, .inl (fun _ => 0))), ((u 1), .inl (K 0, 210, .inl (fun _ => 0))), ((u 2), .inl (K 1, 1024, .inr (.inl (fun _ => 0)))), ((u 3), .inl (K 1, 1024, .inr (.inl (fun _ => 0))))] t) (va_A [(h0, .inr (5, [.int 0, .null, .null, .int 0, .null, .null]))] sz)) 4 2467 (va_A [(h0, .inr (5, [.int 0, .null, .null, .int 0, .null, .null]))] sz) := by
  refine cf_ofW (y := yCu_init) (As := [.ref h0]) (WS := [(h0, .inr (5, [.int 0, .null, .null, .int 0, .null, .null]))]) (maxL := 1) (fun A => (va_Qv (fun (u : Nat → Nat) => True) (fun (u : Nat → Nat) t => cf_At D A [(h0, .inr (5, [.int 0, .ref (u 0), .ref (u 1), .int 0, .ref (u 2), .ref (u 3)])), ((u 0), .inl (K 0, 209, .inl (fun _ => 0))), ((u 1), .inl (K 0, 210, .inl (fun _ => 0))), ((u 2), .inl (K 1, 1024, .inr (.inl (fun _ => 0)))), ((u 3), .inl (K 1, 1024, .inr (.inl (fun _ => 0))))] t) A)) (by decide) (Nat.le_of_ble_eq_true rfl) ?_
  intro p e s m below meth c A ls En hsz hA hP hD hE hS hl
  obtain ⟨hx, hb, hr, hts, hown, hlocks, hin, hml⟩ := En
  have hK := hE.k
  have hl : lv_has ls 1 [(0, .ref h0)] := hl
  refine lv_aload_n hx hb dCu_init_0 rfl (lv_at hl 0 rfl) ?_
  refine W.objInit hx hb hown (hts _ wv_263) (hts _ wv_197) (hts _ wv_198) rfl (by rw [hml]; exact hl.1) rfl dCu_init_1 (Nat.le_of_ble_eq_true rfl) (Nat.le_of_ble_eq_true rfl) ?_
  refine W.eq (g2 := F0 m 4 ls []) rfl ?_
  refine lv_aload_n hx hb dCu_init_4 rfl (lv_at hl 0 rfl) ?_
  refine lv_sipush (v := 209) hx hb dCu_init_5 (by decide) ?_
  refine cf_newa (D := D) (ty := .int) (N' := 209) (a0 := (209, .inl (fun _ => 0))) hx hb (hts _ wv_233) rfl (fun _ h => h) hK 0 rfl hP hD hS hA (fun _ => rfl) (by decide) (by decide) (by decide) (Nat.le_of_ble_eq_true rfl) (Nat.le_of_ble_eq_true rfl) dCu_init_8 (fun q_1 H hP hD hS => ?_)
  refine W.widen (k := 1) (n := 209) (Nat.le_of_ble_eq_true rfl) (Nat.le_of_ble_eq_true rfl) ?_
  refine va_putF (D := D) (ci := 5) (v := .ref q_1) (ty := (.array .int)) (C := RCu) (T := TCu) (N := 6) hx hb hts inCu tyCu tyokCu nmCu hown hK hP hD hS 0 rfl rfl 1 (by decide) (hts _ wv_266) (fun _ h9 => h9) rfl hin rfl (by decide +kernel) rfl rfl (Nat.le_of_ble_eq_true rfl) dCu_init_10 (fun H locs hP hD hS => ?_)
  have hP : va_P D vwCl [(h0, .inr (5, [.int 0, .ref q_1, .null, .int 0, .null, .null])), (q_1, .inl (K 0, 209, .inl (fun _ => 0)))] H := hP
  have hD : va_D A [(h0, .inr (5, [.int 0, .ref q_1, .null, .int 0, .null, .null])), (q_1, .inl (K 0, 209, .inl (fun _ => 0)))] := hD
  refine lv_aload_n hx hb dCu_init_13 rfl (lv_at hl 0 rfl) ?_
  refine lv_sipush (v := 210) hx hb dCu_init_14 (by decide) ?_
  refine cf_newa (D := D) (ty := .int) (N' := 210) (a0 := (210, .inl (fun _ => 0))) hx hb (hts _ wv_233) rfl (fun _ h => h) hK 0 rfl hP hD hS hA (fun _ => rfl) (by decide) (by decide) (by decide) (Nat.le_of_ble_eq_true rfl) (Nat.le_of_ble_eq_true rfl) dCu_init_17 (fun q_2 H hP hD hS => ?_)
  refine W.widen (k := 2) (n := 419) (Nat.le_of_ble_eq_true rfl) (Nat.le_of_ble_eq_true rfl) ?_
  refine va_putF (D := D) (ci := 5) (v := .ref q_2) (ty := (.array .int)) (C := RCu) (T := TCu) (N := 6) hx hb hts inCu tyCu tyokCu nmCu hown hK hP hD hS 0 rfl rfl 2 (by decide) (hts _ wv_268) (fun _ h9 => h9) rfl hin rfl (by decide +kernel) rfl rfl (Nat.le_of_ble_eq_true rfl) dCu_init_19 (fun H locs hP hD hS => ?_)
  have hP : va_P D vwCl [(h0, .inr (5, [.int 0, .ref q_1, .ref q_2, .int 0, .null, .null])), (q_1, .inl (K 0, 209, .inl (fun _ => 0))), (q_2, .inl (K 0, 210, .inl (fun _ => 0)))] H := hP
  have hD : va_D A [(h0, .inr (5, [.int 0, .ref q_1, .ref q_2, .int 0, .null, .null])), (q_1, .inl (K 0, 209, .inl (fun _ => 0))), (q_2, .inl (K 0, 210, .inl (fun _ => 0)))] := hD
  refine lv_aload_n hx hb dCu_init_22 rfl (lv_at hl 0 rfl) ?_
  refine lv_sipush (v := 1024) hx hb dCu_init_23 (by decide) ?_
  refine cf_newa (D := D) (ty := .long) (N' := 1024) (a0 := (1024, .inr (.inl (fun _ => 0)))) hx hb (hts _ wv_257) rfl (fun _ h => h) hK 1 rfl hP hD hS hA (fun _ => rfl) (by decide) (by decide) (by decide) (Nat.le_of_ble_eq_true rfl) (Nat.le_of_ble_eq_true rfl) dCu_init_26 (fun q_3 H hP hD hS => ?_)
  refine W.widen (k := 3) (n := 1443) (Nat.le_of_ble_eq_true rfl) (Nat.le_of_ble_eq_true rfl) ?_
  refine va_put (D := D) (ci := 5) (v := .ref q_3) (ty := (.array .long)) (C := RCu) (T := TCu) (N := 6) hx hb hts inCu tyCu tyokCu nmCu hown hK hP hD hS 0 rfl rfl 4 (by decide) (hts _ wv_270) (fun _ h9 => h9) rfl (by decide +kernel) rfl rfl (Nat.le_of_ble_eq_true rfl) dCu_init_28 (fun H locs hP hD hS => ?_)
  have hP : va_P D vwCl [(h0, .inr (5, [.int 0, .ref q_1, .ref q_2, .int 0, .ref q_3, .null])), (q_1, .inl (K 0, 209, .inl (fun _ => 0))), (q_2, .inl (K 0, 210, .inl (fun _ => 0))), (q_3, .inl (K 1, 1024, .inr (.inl (fun _ => 0))))] H := hP
  have hD : va_D A [(h0, .inr (5, [.int 0, .ref q_1, .ref q_2, .int 0, .ref q_3, .null])), (q_1, .inl (K 0, 209, .inl (fun _ => 0))), (q_2, .inl (K 0, 210, .inl (fun _ => 0))), (q_3, .inl (K 1, 1024, .inr (.inl (fun _ => 0))))] := hD
  refine lv_aload_n hx hb dCu_init_31 rfl (lv_at hl 0 rfl) ?_
  refine lv_sipush (v := 1024) hx hb dCu_init_32 (by decide) ?_
  refine cf_newa (D := D) (ty := .long) (N' := 1024) (a0 := (1024, .inr (.inl (fun _ => 0)))) hx hb (hts _ wv_257) rfl (fun _ h => h) hK 1 rfl hP hD hS hA (fun _ => rfl) (by decide) (by decide) (by decide) (Nat.le_of_ble_eq_true rfl) (Nat.le_of_ble_eq_true rfl) dCu_init_35 (fun q_4 H hP hD hS => ?_)
  refine W.widen (k := 4) (n := 2467) (Nat.le_of_ble_eq_true rfl) (Nat.le_of_ble_eq_true rfl) ?_
  refine va_put (D := D) (ci := 5) (v := .ref q_4) (ty := (.array .long)) (C := RCu) (T := TCu) (N := 6) hx hb hts inCu tyCu tyokCu nmCu hown hK hP hD hS 0 rfl rfl 5 (by decide) (hts _ wv_271) (fun _ h9 => h9) rfl (by decide +kernel) rfl rfl (Nat.le_of_ble_eq_true rfl) dCu_init_37 (fun H locs hP hD hS => ?_)
  have hP : va_P D vwCl [(h0, .inr (5, [.int 0, .ref q_1, .ref q_2, .int 0, .ref q_3, .ref q_4])), (q_1, .inl (K 0, 209, .inl (fun _ => 0))), (q_2, .inl (K 0, 210, .inl (fun _ => 0))), (q_3, .inl (K 1, 1024, .inr (.inl (fun _ => 0)))), (q_4, .inl (K 1, 1024, .inr (.inl (fun _ => 0))))] H := hP
  have hD : va_D A [(h0, .inr (5, [.int 0, .ref q_1, .ref q_2, .int 0, .ref q_3, .ref q_4])), (q_1, .inl (K 0, 209, .inl (fun _ => 0))), (q_2, .inl (K 0, 210, .inl (fun _ => 0))), (q_3, .inl (K 1, 1024, .inr (.inl (fun _ => 0)))), (q_4, .inl (K 1, 1024, .inr (.inl (fun _ => 0))))] := hD
  exact cf_vret hx hb hr hlocks (fun k => ([q_1, q_2, q_3, q_4] : List Nat).getD k 0) trivial hP hD hS [0, 1, 2, 3, 4] rfl (by decide +kernel) (Nat.le_of_ble_eq_true rfl) (Nat.le_of_ble_eq_true rfl) dCu_init_40
set_option maxHeartbeats 4000000 in
set_option maxRecDepth 100000 in
theorem kCo_init (l : Launch) (D : va_G) (K : Nat → ClassId) (sz : Nat) (h0 : Nat) : Met l yCo_init (Cond.code yCo_init cCo_init 1 (Option.none : Option Jvm.ClassFile.FieldType) :: cfB) ({ frames := 1, cells := 3, slots := 423, locals := 16 }) (va_Pc [.ref h0] (cf_Pre D K sz [(h0, .inr (6, [.int 0, .int 0, .null, .null, .null]))])) (va_Qv (fun (u : Nat × Nat × Nat) => True) (fun (u : Nat × Nat × Nat) t => cf_At D (va_A [(h0, .inr (6, [.int 0, .int 0, .null, .null, .null]))] sz) [(h0, .inr (6, [.int 0, .int 0, .ref u.1, .ref u.2.1, .ref u.2.2])), (u.1, .inl (K 0, 5, .inl (fun _ => 0))), (u.2.1, .inl (K 0, 209, .inl (fun _ => 0))), (u.2.2, .inl (K 0, 209, .inl (fun _ => 0)))] t) (va_A [(h0, .inr (6, [.int 0, .int 0, .null, .null, .null]))] sz)) 3 423 (va_A [(h0, .inr (6, [.int 0, .int 0, .null, .null, .null]))] sz) := by
  refine cf_ofW (y := yCo_init) (As := [.ref h0]) (WS := [(h0, .inr (6, [.int 0, .int 0, .null, .null, .null]))]) (maxL := 1) (fun A => (va_Qv (fun (u : Nat × Nat × Nat) => True) (fun (u : Nat × Nat × Nat) t => cf_At D A [(h0, .inr (6, [.int 0, .int 0, .ref u.1, .ref u.2.1, .ref u.2.2])), (u.1, .inl (K 0, 5, .inl (fun _ => 0))), (u.2.1, .inl (K 0, 209, .inl (fun _ => 0))), (u.2.2, .inl (K 0, 209, .inl (fun _ => 0)))] t) A)) (by decide) (Nat.le_of_ble_eq_true rfl) ?_
  intro p e s m below meth c A ls En hsz hA hP hD hE hS hl
  obtain ⟨hx, hb, hr, hts, hown, hlocks, hin, hml⟩ := En
  have hK := hE.k
  have hl : lv_has ls 1 [(0, .ref h0)] := hl
  refine lv_aload_n hx hb dCo_init_0 rfl (lv_at hl 0 rfl) ?_
  refine W.objInit hx hb hown (hts _ wv_290) (hts _ wv_197) (hts _ wv_198) rfl (by rw [hml]; exact hl.1) rfl dCo_init_1 (Nat.le_of_ble_eq_true rfl) (Nat.le_of_ble_eq_true rfl) ?_
  refine W.eq (g2 := F0 m 4 ls []) rfl ?_
  refine lv_aload_n hx hb dCo_init_4 rfl (lv_at hl 0 rfl) ?_
  refine lv_iconst (v := 5) hx hb dCo_init_5 (by decide) ?_
  refine cf_newa (D := D) (ty := .int) (N' := 5) (a0 := (5, .inl (fun _ => 0))) hx hb (hts _ wv_233) rfl (fun _ h => h) hK 0 rfl hP hD hS hA (fun _ => rfl) (by decide) (by decide) (by decide) (Nat.le_of_ble_eq_true rfl) (Nat.le_of_ble_eq_true rfl) dCo_init_6 (fun q_1 H hP hD hS => ?_)
  refine W.widen (k := 1) (n := 5) (Nat.le_of_ble_eq_true rfl) (Nat.le_of_ble_eq_true rfl) ?_
  refine va_putF (D := D) (ci := 6) (v := .ref q_1) (ty := (.array .int)) (C := RCo) (T := TCo) (N := 5) hx hb hts inCo tyCo tyokCo nmCo hown hK hP hD hS 0 rfl rfl 2 (by decide) (hts _ wv_298) (fun _ h9 => h9) rfl hin rfl (by decide +kernel) rfl rfl (Nat.le_of_ble_eq_true rfl) dCo_init_8 (fun H locs hP hD hS => ?_)
  have hP : va_P D vwCl [(h0, .inr (6, [.int 0, .int 0, .ref q_1, .null, .null])), (q_1, .inl (K 0, 5, .inl (fun _ => 0)))] H := hP
  have hD : va_D A [(h0, .inr (6, [.int 0, .int 0, .ref q_1, .null, .null])), (q_1, .inl (K 0, 5, .inl (fun _ => 0)))] := hD
  refine lv_aload_n hx hb dCo_init_11 rfl (lv_at hl 0 rfl) ?_
  refine lv_sipush (v := 209) hx hb dCo_init_12 (by decide) ?_
  refine cf_newa (D := D) (ty := .int) (N' := 209) (a0 := (209, .inl (fun _ => 0))) hx hb (hts _ wv_233) rfl (fun _ h => h) hK 0 rfl hP hD hS hA (fun _ => rfl) (by decide) (by decide) (by decide) (Nat.le_of_ble_eq_true rfl) (Nat.le_of_ble_eq_true rfl) dCo_init_15 (fun q_2 H hP hD hS => ?_)
  refine W.widen (k := 2) (n := 214) (Nat.le_of_ble_eq_true rfl) (Nat.le_of_ble_eq_true rfl) ?_
  refine va_putF (D := D) (ci := 6) (v := .ref q_2) (ty := (.array .int)) (C := RCo) (T := TCo) (N := 5) hx hb hts inCo tyCo tyokCo nmCo hown hK hP hD hS 0 rfl rfl 3 (by decide) (hts _ wv_301) (fun _ h9 => h9) rfl hin rfl (by decide +kernel) rfl rfl (Nat.le_of_ble_eq_true rfl) dCo_init_17 (fun H locs hP hD hS => ?_)
  have hP : va_P D vwCl [(h0, .inr (6, [.int 0, .int 0, .ref q_1, .ref q_2, .null])), (q_1, .inl (K 0, 5, .inl (fun _ => 0))), (q_2, .inl (K 0, 209, .inl (fun _ => 0)))] H := hP
  have hD : va_D A [(h0, .inr (6, [.int 0, .int 0, .ref q_1, .ref q_2, .null])), (q_1, .inl (K 0, 5, .inl (fun _ => 0))), (q_2, .inl (K 0, 209, .inl (fun _ => 0)))] := hD
  refine lv_aload_n hx hb dCo_init_20 rfl (lv_at hl 0 rfl) ?_
  refine lv_sipush (v := 209) hx hb dCo_init_21 (by decide) ?_
  refine cf_newa (D := D) (ty := .int) (N' := 209) (a0 := (209, .inl (fun _ => 0))) hx hb (hts _ wv_233) rfl (fun _ h => h) hK 0 rfl hP hD hS hA (fun _ => rfl) (by decide) (by decide) (by decide) (Nat.le_of_ble_eq_true rfl) (Nat.le_of_ble_eq_true rfl) dCo_init_24 (fun q_3 H hP hD hS => ?_)
  refine W.widen (k := 3) (n := 423) (Nat.le_of_ble_eq_true rfl) (Nat.le_of_ble_eq_true rfl) ?_
  refine va_putF (D := D) (ci := 6) (v := .ref q_3) (ty := (.array .int)) (C := RCo) (T := TCo) (N := 5) hx hb hts inCo tyCo tyokCo nmCo hown hK hP hD hS 0 rfl rfl 4 (by decide) (hts _ wv_302) (fun _ h9 => h9) rfl hin rfl (by decide +kernel) rfl rfl (Nat.le_of_ble_eq_true rfl) dCo_init_26 (fun H locs hP hD hS => ?_)
  have hP : va_P D vwCl [(h0, .inr (6, [.int 0, .int 0, .ref q_1, .ref q_2, .ref q_3])), (q_1, .inl (K 0, 5, .inl (fun _ => 0))), (q_2, .inl (K 0, 209, .inl (fun _ => 0))), (q_3, .inl (K 0, 209, .inl (fun _ => 0)))] H := hP
  have hD : va_D A [(h0, .inr (6, [.int 0, .int 0, .ref q_1, .ref q_2, .ref q_3])), (q_1, .inl (K 0, 5, .inl (fun _ => 0))), (q_2, .inl (K 0, 209, .inl (fun _ => 0))), (q_3, .inl (K 0, 209, .inl (fun _ => 0)))] := hD
  exact cf_vret hx hb hr hlocks (q_1, q_2, q_3) trivial hP hD hS [0, 1, 2, 3] rfl (by decide +kernel) (Nat.le_of_ble_eq_true rfl) (Nat.le_of_ble_eq_true rfl) dCo_init_29
set_option maxHeartbeats 4000000 in
set_option maxRecDepth 100000 in
theorem kCv_init (l : Launch) (D : va_G) (K : Nat → ClassId) (sz : Nat) (h0 : Nat) : Met l yCv_init (Cond.code yCv_init cCv_init 1 (Option.none : Option Jvm.ClassFile.FieldType) :: cfB) ({ frames := 1, cells := 5, slots := 1018, locals := 16 }) (va_Pc [.ref h0] (cf_Pre D K sz [(h0, .inr (8, [.int 0, .int 0, .null, .null, .null, .null, .null]))])) (va_Qv (fun (u : Nat → Nat) => True) (fun (u : Nat → Nat) t => cf_At D (va_A [(h0, .inr (8, [.int 0, .int 0, .null, .null, .null, .null, .null]))] sz) [(h0, .inr (8, [.int 0, .int 0, .ref (u 0), .ref (u 1), .ref (u 2), .ref (u 3), .ref (u 4)])), ((u 0), .inl (K 0, 200, .inl (fun _ => 0))), ((u 1), .inl (K 0, 200, .inl (fun _ => 0))), ((u 2), .inl (K 0, 200, .inl (fun _ => 0))), ((u 3), .inl (K 1, 209, .inr (.inl (fun _ => 0)))), ((u 4), .inl (K 0, 209, .inl (fun _ => 0)))] t) (va_A [(h0, .inr (8, [.int 0, .int 0, .null, .null, .null, .null, .null]))] sz)) 5 1018 (va_A [(h0, .inr (8, [.int 0, .int 0, .null, .null, .null, .null, .null]))] sz) := by
  refine cf_ofW (y := yCv_init) (As := [.ref h0]) (WS := [(h0, .inr (8, [.int 0, .int 0, .null, .null, .null, .null, .null]))]) (maxL := 1) (fun A => (va_Qv (fun (u : Nat → Nat) => True) (fun (u : Nat → Nat) t => cf_At D A [(h0, .inr (8, [.int 0, .int 0, .ref (u 0), .ref (u 1), .ref (u 2), .ref (u 3), .ref (u 4)])), ((u 0), .inl (K 0, 200, .inl (fun _ => 0))), ((u 1), .inl (K 0, 200, .inl (fun _ => 0))), ((u 2), .inl (K 0, 200, .inl (fun _ => 0))), ((u 3), .inl (K 1, 209, .inr (.inl (fun _ => 0)))), ((u 4), .inl (K 0, 209, .inl (fun _ => 0)))] t) A)) (by decide) (Nat.le_of_ble_eq_true rfl) ?_
  intro p e s m below meth c A ls En hsz hA hP hD hE hS hl
  obtain ⟨hx, hb, hr, hts, hown, hlocks, hin, hml⟩ := En
  have hK := hE.k
  have hl : lv_has ls 1 [(0, .ref h0)] := hl
  refine lv_aload_n hx hb dCv_init_0 rfl (lv_at hl 0 rfl) ?_
  refine W.objInit hx hb hown (hts _ wv_368) (hts _ wv_197) (hts _ wv_198) rfl (by rw [hml]; exact hl.1) rfl dCv_init_1 (Nat.le_of_ble_eq_true rfl) (Nat.le_of_ble_eq_true rfl) ?_
  refine W.eq (g2 := F0 m 4 ls []) rfl ?_
  refine lv_aload_n hx hb dCv_init_4 rfl (lv_at hl 0 rfl) ?_
  refine lv_sipush (v := 200) hx hb dCv_init_5 (by decide) ?_
  refine cf_newa (D := D) (ty := .int) (N' := 200) (a0 := (200, .inl (fun _ => 0))) hx hb (hts _ wv_233) rfl (fun _ h => h) hK 0 rfl hP hD hS hA (fun _ => rfl) (by decide) (by decide) (by decide) (Nat.le_of_ble_eq_true rfl) (Nat.le_of_ble_eq_true rfl) dCv_init_8 (fun q_1 H hP hD hS => ?_)
  refine W.widen (k := 1) (n := 200) (Nat.le_of_ble_eq_true rfl) (Nat.le_of_ble_eq_true rfl) ?_
  refine va_putF (D := D) (ci := 8) (v := .ref q_1) (ty := (.array .int)) (C := RCv) (T := TCv) (N := 7) hx hb hts inCv tyCv tyokCv nmCv hown hK hP hD hS 0 rfl rfl 2 (by decide) (hts _ wv_373) (fun _ h9 => h9) rfl hin rfl (by decide +kernel) rfl rfl (Nat.le_of_ble_eq_true rfl) dCv_init_10 (fun H locs hP hD hS => ?_)
  have hP : va_P D vwCl [(h0, .inr (8, [.int 0, .int 0, .ref q_1, .null, .null, .null, .null])), (q_1, .inl (K 0, 200, .inl (fun _ => 0)))] H := hP
  have hD : va_D A [(h0, .inr (8, [.int 0, .int 0, .ref q_1, .null, .null, .null, .null])), (q_1, .inl (K 0, 200, .inl (fun _ => 0)))] := hD
  refine lv_aload_n hx hb dCv_init_13 rfl (lv_at hl 0 rfl) ?_
  refine lv_sipush (v := 200) hx hb dCv_init_14 (by decide) ?_
  refine cf_newa (D := D) (ty := .int) (N' := 200) (a0 := (200, .inl (fun _ => 0))) hx hb (hts _ wv_233) rfl (fun _ h => h) hK 0 rfl hP hD hS hA (fun _ => rfl) (by decide) (by decide) (by decide) (Nat.le_of_ble_eq_true rfl) (Nat.le_of_ble_eq_true rfl) dCv_init_17 (fun q_2 H hP hD hS => ?_)
  refine W.widen (k := 2) (n := 400) (Nat.le_of_ble_eq_true rfl) (Nat.le_of_ble_eq_true rfl) ?_
  refine va_putF (D := D) (ci := 8) (v := .ref q_2) (ty := (.array .int)) (C := RCv) (T := TCv) (N := 7) hx hb hts inCv tyCv tyokCv nmCv hown hK hP hD hS 0 rfl rfl 3 (by decide) (hts _ wv_375) (fun _ h9 => h9) rfl hin rfl (by decide +kernel) rfl rfl (Nat.le_of_ble_eq_true rfl) dCv_init_19 (fun H locs hP hD hS => ?_)
  have hP : va_P D vwCl [(h0, .inr (8, [.int 0, .int 0, .ref q_1, .ref q_2, .null, .null, .null])), (q_1, .inl (K 0, 200, .inl (fun _ => 0))), (q_2, .inl (K 0, 200, .inl (fun _ => 0)))] H := hP
  have hD : va_D A [(h0, .inr (8, [.int 0, .int 0, .ref q_1, .ref q_2, .null, .null, .null])), (q_1, .inl (K 0, 200, .inl (fun _ => 0))), (q_2, .inl (K 0, 200, .inl (fun _ => 0)))] := hD
  refine lv_aload_n hx hb dCv_init_22 rfl (lv_at hl 0 rfl) ?_
  refine lv_sipush (v := 200) hx hb dCv_init_23 (by decide) ?_
  refine cf_newa (D := D) (ty := .int) (N' := 200) (a0 := (200, .inl (fun _ => 0))) hx hb (hts _ wv_233) rfl (fun _ h => h) hK 0 rfl hP hD hS hA (fun _ => rfl) (by decide) (by decide) (by decide) (Nat.le_of_ble_eq_true rfl) (Nat.le_of_ble_eq_true rfl) dCv_init_26 (fun q_3 H hP hD hS => ?_)
  refine W.widen (k := 3) (n := 600) (Nat.le_of_ble_eq_true rfl) (Nat.le_of_ble_eq_true rfl) ?_
  refine va_putF (D := D) (ci := 8) (v := .ref q_3) (ty := (.array .int)) (C := RCv) (T := TCv) (N := 7) hx hb hts inCv tyCv tyokCv nmCv hown hK hP hD hS 0 rfl rfl 4 (by decide) (hts _ wv_377) (fun _ h9 => h9) rfl hin rfl (by decide +kernel) rfl rfl (Nat.le_of_ble_eq_true rfl) dCv_init_28 (fun H locs hP hD hS => ?_)
  have hP : va_P D vwCl [(h0, .inr (8, [.int 0, .int 0, .ref q_1, .ref q_2, .ref q_3, .null, .null])), (q_1, .inl (K 0, 200, .inl (fun _ => 0))), (q_2, .inl (K 0, 200, .inl (fun _ => 0))), (q_3, .inl (K 0, 200, .inl (fun _ => 0)))] H := hP
  have hD : va_D A [(h0, .inr (8, [.int 0, .int 0, .ref q_1, .ref q_2, .ref q_3, .null, .null])), (q_1, .inl (K 0, 200, .inl (fun _ => 0))), (q_2, .inl (K 0, 200, .inl (fun _ => 0))), (q_3, .inl (K 0, 200, .inl (fun _ => 0)))] := hD
  refine lv_aload_n hx hb dCv_init_31 rfl (lv_at hl 0 rfl) ?_
  refine lv_sipush (v := 209) hx hb dCv_init_32 (by decide) ?_
  refine cf_newa (D := D) (ty := .long) (N' := 209) (a0 := (209, .inr (.inl (fun _ => 0)))) hx hb (hts _ wv_257) rfl (fun _ h => h) hK 1 rfl hP hD hS hA (fun _ => rfl) (by decide) (by decide) (by decide) (Nat.le_of_ble_eq_true rfl) (Nat.le_of_ble_eq_true rfl) dCv_init_35 (fun q_4 H hP hD hS => ?_)
  refine W.widen (k := 4) (n := 809) (Nat.le_of_ble_eq_true rfl) (Nat.le_of_ble_eq_true rfl) ?_
  refine va_putF (D := D) (ci := 8) (v := .ref q_4) (ty := (.array .long)) (C := RCv) (T := TCv) (N := 7) hx hb hts inCv tyCv tyokCv nmCv hown hK hP hD hS 0 rfl rfl 5 (by decide) (hts _ wv_379) (fun _ h9 => h9) rfl hin rfl (by decide +kernel) rfl rfl (Nat.le_of_ble_eq_true rfl) dCv_init_37 (fun H locs hP hD hS => ?_)
  have hP : va_P D vwCl [(h0, .inr (8, [.int 0, .int 0, .ref q_1, .ref q_2, .ref q_3, .ref q_4, .null])), (q_1, .inl (K 0, 200, .inl (fun _ => 0))), (q_2, .inl (K 0, 200, .inl (fun _ => 0))), (q_3, .inl (K 0, 200, .inl (fun _ => 0))), (q_4, .inl (K 1, 209, .inr (.inl (fun _ => 0))))] H := hP
  have hD : va_D A [(h0, .inr (8, [.int 0, .int 0, .ref q_1, .ref q_2, .ref q_3, .ref q_4, .null])), (q_1, .inl (K 0, 200, .inl (fun _ => 0))), (q_2, .inl (K 0, 200, .inl (fun _ => 0))), (q_3, .inl (K 0, 200, .inl (fun _ => 0))), (q_4, .inl (K 1, 209, .inr (.inl (fun _ => 0))))] := hD
  refine lv_aload_n hx hb dCv_init_40 rfl (lv_at hl 0 rfl) ?_
  refine lv_sipush (v := 209) hx hb dCv_init_41 (by decide) ?_
  refine cf_newa (D := D) (ty := .int) (N' := 209) (a0 := (209, .inl (fun _ => 0))) hx hb (hts _ wv_233) rfl (fun _ h => h) hK 0 rfl hP hD hS hA (fun _ => rfl) (by decide) (by decide) (by decide) (Nat.le_of_ble_eq_true rfl) (Nat.le_of_ble_eq_true rfl) dCv_init_44 (fun q_5 H hP hD hS => ?_)
  refine W.widen (k := 5) (n := 1018) (Nat.le_of_ble_eq_true rfl) (Nat.le_of_ble_eq_true rfl) ?_
  refine va_putF (D := D) (ci := 8) (v := .ref q_5) (ty := (.array .int)) (C := RCv) (T := TCv) (N := 7) hx hb hts inCv tyCv tyokCv nmCv hown hK hP hD hS 0 rfl rfl 6 (by decide) (hts _ wv_380) (fun _ h9 => h9) rfl hin rfl (by decide +kernel) rfl rfl (Nat.le_of_ble_eq_true rfl) dCv_init_46 (fun H locs hP hD hS => ?_)
  have hP : va_P D vwCl [(h0, .inr (8, [.int 0, .int 0, .ref q_1, .ref q_2, .ref q_3, .ref q_4, .ref q_5])), (q_1, .inl (K 0, 200, .inl (fun _ => 0))), (q_2, .inl (K 0, 200, .inl (fun _ => 0))), (q_3, .inl (K 0, 200, .inl (fun _ => 0))), (q_4, .inl (K 1, 209, .inr (.inl (fun _ => 0)))), (q_5, .inl (K 0, 209, .inl (fun _ => 0)))] H := hP
  have hD : va_D A [(h0, .inr (8, [.int 0, .int 0, .ref q_1, .ref q_2, .ref q_3, .ref q_4, .ref q_5])), (q_1, .inl (K 0, 200, .inl (fun _ => 0))), (q_2, .inl (K 0, 200, .inl (fun _ => 0))), (q_3, .inl (K 0, 200, .inl (fun _ => 0))), (q_4, .inl (K 1, 209, .inr (.inl (fun _ => 0)))), (q_5, .inl (K 0, 209, .inl (fun _ => 0)))] := hD
  exact cf_vret hx hb hr hlocks (fun k => ([q_1, q_2, q_3, q_4, q_5] : List Nat).getD k 0) trivial hP hD hS [0, 1, 2, 3, 4, 5] rfl (by decide +kernel) (Nat.le_of_ble_eq_true rfl) (Nat.le_of_ble_eq_true rfl) dCv_init_49
set_option maxHeartbeats 4000000 in
set_option maxRecDepth 100000 in
theorem kMp_init (l : Launch) (D : va_G) (K : Nat → ClassId) (sz : Nat) (h0 : Nat) : Met l yMp_init (Cond.code yMp_init cMp_init 1 (Option.none : Option Jvm.ClassFile.FieldType) :: cfB) ({ frames := 1, cells := 4, slots := 1672, locals := 16 }) (va_Pc [.ref h0] (cf_Pre D K sz [(h0, .inr (9, [.int 0, .int 0, .int 0, .null, .null, .null, .null]))])) (va_Qv (fun (u : Nat → Nat) => True) (fun (u : Nat → Nat) t => cf_At D (va_A [(h0, .inr (9, [.int 0, .int 0, .int 0, .null, .null, .null, .null]))] sz) [(h0, .inr (9, [.int 0, .int 0, .int 0, .ref (u 0), .ref (u 1), .ref (u 2), .ref (u 3)])), ((u 0), .inl (K 0, 418, .inl (fun _ => 0))), ((u 1), .inl (K 1, 418, .inr (.inl (fun _ => 0)))), ((u 2), .inl (K 1, 418, .inr (.inl (fun _ => 0)))), ((u 3), .inl (K 3, 418, .inl (fun _ => 0)))] t) (va_A [(h0, .inr (9, [.int 0, .int 0, .int 0, .null, .null, .null, .null]))] sz)) 4 1672 (va_A [(h0, .inr (9, [.int 0, .int 0, .int 0, .null, .null, .null, .null]))] sz) := by
  refine cf_ofW (y := yMp_init) (As := [.ref h0]) (WS := [(h0, .inr (9, [.int 0, .int 0, .int 0, .null, .null, .null, .null]))]) (maxL := 1) (fun A => (va_Qv (fun (u : Nat → Nat) => True) (fun (u : Nat → Nat) t => cf_At D A [(h0, .inr (9, [.int 0, .int 0, .int 0, .ref (u 0), .ref (u 1), .ref (u 2), .ref (u 3)])), ((u 0), .inl (K 0, 418, .inl (fun _ => 0))), ((u 1), .inl (K 1, 418, .inr (.inl (fun _ => 0)))), ((u 2), .inl (K 1, 418, .inr (.inl (fun _ => 0)))), ((u 3), .inl (K 3, 418, .inl (fun _ => 0)))] t) A)) (by decide) (Nat.le_of_ble_eq_true rfl) ?_
  intro p e s m below meth c A ls En hsz hA hP hD hE hS hl
  obtain ⟨hx, hb, hr, hts, hown, hlocks, hin, hml⟩ := En
  have hK := hE.k
  have hl : lv_has ls 1 [(0, .ref h0)] := hl
  refine lv_aload_n hx hb dMp_init_0 rfl (lv_at hl 0 rfl) ?_
  refine W.objInit hx hb hown (hts _ wv_401) (hts _ wv_197) (hts _ wv_198) rfl (by rw [hml]; exact hl.1) rfl dMp_init_1 (Nat.le_of_ble_eq_true rfl) (Nat.le_of_ble_eq_true rfl) ?_
  refine W.eq (g2 := F0 m 4 ls []) rfl ?_
  refine lv_aload_n hx hb dMp_init_4 rfl (lv_at hl 0 rfl) ?_
  refine lv_sipush (v := 418) hx hb dMp_init_5 (by decide) ?_
  refine cf_newa (D := D) (ty := .int) (N' := 418) (a0 := (418, .inl (fun _ => 0))) hx hb (hts _ wv_233) rfl (fun _ h => h) hK 0 rfl hP hD hS hA (fun _ => rfl) (by decide) (by decide) (by decide) (Nat.le_of_ble_eq_true rfl) (Nat.le_of_ble_eq_true rfl) dMp_init_8 (fun q_1 H hP hD hS => ?_)
  refine W.widen (k := 1) (n := 418) (Nat.le_of_ble_eq_true rfl) (Nat.le_of_ble_eq_true rfl) ?_
  refine va_putF (D := D) (ci := 9) (v := .ref q_1) (ty := (.array .int)) (C := RMp) (T := TMp) (N := 7) hx hb hts inMp tyMp tyokMp nmMp hown hK hP hD hS 0 rfl rfl 3 (by decide) (hts _ wv_408) (fun _ h9 => h9) rfl hin rfl (by decide +kernel) rfl rfl (Nat.le_of_ble_eq_true rfl) dMp_init_10 (fun H locs hP hD hS => ?_)
  have hP : va_P D vwCl [(h0, .inr (9, [.int 0, .int 0, .int 0, .ref q_1, .null, .null, .null])), (q_1, .inl (K 0, 418, .inl (fun _ => 0)))] H := hP
  have hD : va_D A [(h0, .inr (9, [.int 0, .int 0, .int 0, .ref q_1, .null, .null, .null])), (q_1, .inl (K 0, 418, .inl (fun _ => 0)))] := hD
  refine lv_aload_n hx hb dMp_init_13 rfl (lv_at hl 0 rfl) ?_
  refine lv_sipush (v := 418) hx hb dMp_init_14 (by decide) ?_
  refine cf_newa (D := D) (ty := .long) (N' := 418) (a0 := (418, .inr (.inl (fun _ => 0)))) hx hb (hts _ wv_257) rfl (fun _ h => h) hK 1 rfl hP hD hS hA (fun _ => rfl) (by decide) (by decide) (by decide) (Nat.le_of_ble_eq_true rfl) (Nat.le_of_ble_eq_true rfl) dMp_init_17 (fun q_2 H hP hD hS => ?_)
  refine W.widen (k := 2) (n := 836) (Nat.le_of_ble_eq_true rfl) (Nat.le_of_ble_eq_true rfl) ?_
  refine va_putF (D := D) (ci := 9) (v := .ref q_2) (ty := (.array .long)) (C := RMp) (T := TMp) (N := 7) hx hb hts inMp tyMp tyokMp nmMp hown hK hP hD hS 0 rfl rfl 4 (by decide) (hts _ wv_410) (fun _ h9 => h9) rfl hin rfl (by decide +kernel) rfl rfl (Nat.le_of_ble_eq_true rfl) dMp_init_19 (fun H locs hP hD hS => ?_)
  have hP : va_P D vwCl [(h0, .inr (9, [.int 0, .int 0, .int 0, .ref q_1, .ref q_2, .null, .null])), (q_1, .inl (K 0, 418, .inl (fun _ => 0))), (q_2, .inl (K 1, 418, .inr (.inl (fun _ => 0))))] H := hP
  have hD : va_D A [(h0, .inr (9, [.int 0, .int 0, .int 0, .ref q_1, .ref q_2, .null, .null])), (q_1, .inl (K 0, 418, .inl (fun _ => 0))), (q_2, .inl (K 1, 418, .inr (.inl (fun _ => 0))))] := hD
  refine lv_aload_n hx hb dMp_init_22 rfl (lv_at hl 0 rfl) ?_
  refine lv_sipush (v := 418) hx hb dMp_init_23 (by decide) ?_
  refine cf_newa (D := D) (ty := .long) (N' := 418) (a0 := (418, .inr (.inl (fun _ => 0)))) hx hb (hts _ wv_257) rfl (fun _ h => h) hK 1 rfl hP hD hS hA (fun _ => rfl) (by decide) (by decide) (by decide) (Nat.le_of_ble_eq_true rfl) (Nat.le_of_ble_eq_true rfl) dMp_init_26 (fun q_3 H hP hD hS => ?_)
  refine W.widen (k := 3) (n := 1254) (Nat.le_of_ble_eq_true rfl) (Nat.le_of_ble_eq_true rfl) ?_
  refine va_putF (D := D) (ci := 9) (v := .ref q_3) (ty := (.array .long)) (C := RMp) (T := TMp) (N := 7) hx hb hts inMp tyMp tyokMp nmMp hown hK hP hD hS 0 rfl rfl 5 (by decide) (hts _ wv_412) (fun _ h9 => h9) rfl hin rfl (by decide +kernel) rfl rfl (Nat.le_of_ble_eq_true rfl) dMp_init_28 (fun H locs hP hD hS => ?_)
  have hP : va_P D vwCl [(h0, .inr (9, [.int 0, .int 0, .int 0, .ref q_1, .ref q_2, .ref q_3, .null])), (q_1, .inl (K 0, 418, .inl (fun _ => 0))), (q_2, .inl (K 1, 418, .inr (.inl (fun _ => 0)))), (q_3, .inl (K 1, 418, .inr (.inl (fun _ => 0))))] H := hP
  have hD : va_D A [(h0, .inr (9, [.int 0, .int 0, .int 0, .ref q_1, .ref q_2, .ref q_3, .null])), (q_1, .inl (K 0, 418, .inl (fun _ => 0))), (q_2, .inl (K 1, 418, .inr (.inl (fun _ => 0)))), (q_3, .inl (K 1, 418, .inr (.inl (fun _ => 0))))] := hD
  refine lv_aload_n hx hb dMp_init_31 rfl (lv_at hl 0 rfl) ?_
  refine lv_sipush (v := 418) hx hb dMp_init_32 (by decide) ?_
  refine cf_newa (D := D) (ty := .boolean) (N' := 418) (a0 := (418, .inl (fun _ => 0))) hx hb (hts _ wv_362) rfl (fun _ h => h) hK 3 rfl hP hD hS hA (fun _ => rfl) (by decide) (by decide) (by decide) (Nat.le_of_ble_eq_true rfl) (Nat.le_of_ble_eq_true rfl) dMp_init_35 (fun q_4 H hP hD hS => ?_)
  refine W.widen (k := 4) (n := 1672) (Nat.le_of_ble_eq_true rfl) (Nat.le_of_ble_eq_true rfl) ?_
  refine va_putF (D := D) (ci := 9) (v := .ref q_4) (ty := (.array .boolean)) (C := RMp) (T := TMp) (N := 7) hx hb hts inMp tyMp tyokMp nmMp hown hK hP hD hS 0 rfl rfl 6 (by decide) (hts _ wv_413) (fun _ h9 => h9) rfl hin rfl (by decide +kernel) rfl rfl (Nat.le_of_ble_eq_true rfl) dMp_init_37 (fun H locs hP hD hS => ?_)
  have hP : va_P D vwCl [(h0, .inr (9, [.int 0, .int 0, .int 0, .ref q_1, .ref q_2, .ref q_3, .ref q_4])), (q_1, .inl (K 0, 418, .inl (fun _ => 0))), (q_2, .inl (K 1, 418, .inr (.inl (fun _ => 0)))), (q_3, .inl (K 1, 418, .inr (.inl (fun _ => 0)))), (q_4, .inl (K 3, 418, .inl (fun _ => 0)))] H := hP
  have hD : va_D A [(h0, .inr (9, [.int 0, .int 0, .int 0, .ref q_1, .ref q_2, .ref q_3, .ref q_4])), (q_1, .inl (K 0, 418, .inl (fun _ => 0))), (q_2, .inl (K 1, 418, .inr (.inl (fun _ => 0)))), (q_3, .inl (K 1, 418, .inr (.inl (fun _ => 0)))), (q_4, .inl (K 3, 418, .inl (fun _ => 0)))] := hD
  exact cf_vret hx hb hr hlocks (fun k => ([q_1, q_2, q_3, q_4] : List Nat).getD k 0) trivial hP hD hS [0, 1, 2, 3, 4] rfl (by decide +kernel) (Nat.le_of_ble_eq_true rfl) (Nat.le_of_ble_eq_true rfl) dMp_init_40
set_option maxHeartbeats 4000000 in
set_option maxRecDepth 100000 in
theorem kNl_init (l : Launch) (D : va_G) (K : Nat → ClassId) (sz : Nat) (h0 : Nat) : Met l yNl_init (Cond.code yNl_init cNl_init 1 (Option.none : Option Jvm.ClassFile.FieldType) :: cfB) ({ frames := 1, cells := 12, slots := 1040, locals := 16 }) (va_Pc [.ref h0] (cf_Pre D K sz [(h0, .inr (2, [.int 0, .int 0, .int 0, .null, .null, .int 0, .int 0, .null, .null, .null, .null, .null, .null, .null, .null, .null, .null]))])) (va_Qv (fun (u : Nat → Nat) => True) (fun (u : Nat → Nat) t => cf_At D (va_A [(h0, .inr (2, [.int 0, .int 0, .int 0, .null, .null, .int 0, .int 0, .null, .null, .null, .null, .null, .null, .null, .null, .null, .null]))] sz) [(h0, .inr (2, [.int 0, .int 0, .int 0, .ref (u 0), .ref (u 1), .int 0, .int 0, .ref (u 2), .ref (u 3), .ref (u 4), .ref (u 5), .ref (u 6), .ref (u 7), .ref (u 8), .ref (u 9), .ref (u 10), .ref (u 11)])), ((u 0), .inl (K 1, 8, .inr (.inl (fun _ => 0)))), ((u 1), .inl (K 1, 6, .inr (.inl (fun _ => 0)))), ((u 2), .inl (K 1, 180, .inr (.inl (fun _ => 0)))), ((u 3), .inl (K 0, 30, .inl (fun _ => 0))), ((u 4), .inl (K 0, 30, .inl (fun _ => 0))), ((u 5), .inl (K 0, 30, .inl (fun _ => 0))), ((u 6), .inl (K 0, 30, .inl (fun _ => 0))), ((u 7), .inl (K 0, 480, .inl (fun _ => 0))), ((u 8), .inl (K 0, 180, .inl (fun _ => 0))), ((u 9), .inl (K 0, 6, .inl (fun _ => 0))), ((u 10), .inl (K 0, 30, .inl (fun _ => 0))), ((u 11), .inl (K 0, 30, .inl (fun _ => 0)))] t) (va_A [(h0, .inr (2, [.int 0, .int 0, .int 0, .null, .null, .int 0, .int 0, .null, .null, .null, .null, .null, .null, .null, .null, .null, .null]))] sz)) 12 1040 (va_A [(h0, .inr (2, [.int 0, .int 0, .int 0, .null, .null, .int 0, .int 0, .null, .null, .null, .null, .null, .null, .null, .null, .null, .null]))] sz) := by
  refine cf_ofW (y := yNl_init) (As := [.ref h0]) (WS := [(h0, .inr (2, [.int 0, .int 0, .int 0, .null, .null, .int 0, .int 0, .null, .null, .null, .null, .null, .null, .null, .null, .null, .null]))]) (maxL := 1) (fun A => (va_Qv (fun (u : Nat → Nat) => True) (fun (u : Nat → Nat) t => cf_At D A [(h0, .inr (2, [.int 0, .int 0, .int 0, .ref (u 0), .ref (u 1), .int 0, .int 0, .ref (u 2), .ref (u 3), .ref (u 4), .ref (u 5), .ref (u 6), .ref (u 7), .ref (u 8), .ref (u 9), .ref (u 10), .ref (u 11)])), ((u 0), .inl (K 1, 8, .inr (.inl (fun _ => 0)))), ((u 1), .inl (K 1, 6, .inr (.inl (fun _ => 0)))), ((u 2), .inl (K 1, 180, .inr (.inl (fun _ => 0)))), ((u 3), .inl (K 0, 30, .inl (fun _ => 0))), ((u 4), .inl (K 0, 30, .inl (fun _ => 0))), ((u 5), .inl (K 0, 30, .inl (fun _ => 0))), ((u 6), .inl (K 0, 30, .inl (fun _ => 0))), ((u 7), .inl (K 0, 480, .inl (fun _ => 0))), ((u 8), .inl (K 0, 180, .inl (fun _ => 0))), ((u 9), .inl (K 0, 6, .inl (fun _ => 0))), ((u 10), .inl (K 0, 30, .inl (fun _ => 0))), ((u 11), .inl (K 0, 30, .inl (fun _ => 0)))] t) A)) (by decide) (Nat.le_of_ble_eq_true rfl) ?_
  intro p e s m below meth c A ls En hsz hA hP hD hE hS hl
  obtain ⟨hx, hb, hr, hts, hown, hlocks, hin, hml⟩ := En
  have hK := hE.k
  have hl : lv_has ls 1 [(0, .ref h0)] := hl
  refine lv_aload_n hx hb dNl_init_0 rfl (lv_at hl 0 rfl) ?_
  refine W.objInit hx hb hown (hts _ wv_482) (hts _ wv_197) (hts _ wv_198) rfl (by rw [hml]; exact hl.1) rfl dNl_init_1 (Nat.le_of_ble_eq_true rfl) (Nat.le_of_ble_eq_true rfl) ?_
  refine W.eq (g2 := F0 m 4 ls []) rfl ?_
  refine lv_aload_n hx hb dNl_init_4 rfl (lv_at hl 0 rfl) ?_
  refine lv_bipush (v := 8) hx hb dNl_init_5 (by decide) ?_
  refine cf_newa (D := D) (ty := .long) (N' := 8) (a0 := (8, .inr (.inl (fun _ => 0)))) hx hb (hts _ wv_257) rfl (fun _ h => h) hK 1 rfl hP hD hS hA (fun _ => rfl) (by decide) (by decide) (by decide) (Nat.le_of_ble_eq_true rfl) (Nat.le_of_ble_eq_true rfl) dNl_init_7 (fun q_1 H hP hD hS => ?_)
  refine W.widen (k := 1) (n := 8) (Nat.le_of_ble_eq_true rfl) (Nat.le_of_ble_eq_true rfl) ?_
  refine va_putF (D := D) (ci := 2) (v := .ref q_1) (ty := (.array .long)) (C := RNl) (T := TNl) (N := 17) hx hb hts inNl tyNl tyokNl nmNl hown hK hP hD hS 0 rfl rfl 3 (by decide) (hts _ wv_489) (fun _ h9 => h9) rfl hin rfl (by decide +kernel) rfl rfl (Nat.le_of_ble_eq_true rfl) dNl_init_9 (fun H locs hP hD hS => ?_)
  have hP : va_P D vwCl [(h0, .inr (2, [.int 0, .int 0, .int 0, .ref q_1, .null, .int 0, .int 0, .null, .null, .null, .null, .null, .null, .null, .null, .null, .null])), (q_1, .inl (K 1, 8, .inr (.inl (fun _ => 0))))] H := hP
  have hD : va_D A [(h0, .inr (2, [.int 0, .int 0, .int 0, .ref q_1, .null, .int 0, .int 0, .null, .null, .null, .null, .null, .null, .null, .null, .null, .null])), (q_1, .inl (K 1, 8, .inr (.inl (fun _ => 0))))] := hD
  refine lv_aload_n hx hb dNl_init_12 rfl (lv_at hl 0 rfl) ?_
  refine lv_bipush (v := 6) hx hb dNl_init_13 (by decide) ?_
  refine cf_newa (D := D) (ty := .long) (N' := 6) (a0 := (6, .inr (.inl (fun _ => 0)))) hx hb (hts _ wv_257) rfl (fun _ h => h) hK 1 rfl hP hD hS hA (fun _ => rfl) (by decide) (by decide) (by decide) (Nat.le_of_ble_eq_true rfl) (Nat.le_of_ble_eq_true rfl) dNl_init_15 (fun q_2 H hP hD hS => ?_)
  refine W.widen (k := 2) (n := 14) (Nat.le_of_ble_eq_true rfl) (Nat.le_of_ble_eq_true rfl) ?_
  refine va_putF (D := D) (ci := 2) (v := .ref q_2) (ty := (.array .long)) (C := RNl) (T := TNl) (N := 17) hx hb hts inNl tyNl tyokNl nmNl hown hK hP hD hS 0 rfl rfl 4 (by decide) (hts _ wv_491) (fun _ h9 => h9) rfl hin rfl (by decide +kernel) rfl rfl (Nat.le_of_ble_eq_true rfl) dNl_init_17 (fun H locs hP hD hS => ?_)
  have hP : va_P D vwCl [(h0, .inr (2, [.int 0, .int 0, .int 0, .ref q_1, .ref q_2, .int 0, .int 0, .null, .null, .null, .null, .null, .null, .null, .null, .null, .null])), (q_1, .inl (K 1, 8, .inr (.inl (fun _ => 0)))), (q_2, .inl (K 1, 6, .inr (.inl (fun _ => 0))))] H := hP
  have hD : va_D A [(h0, .inr (2, [.int 0, .int 0, .int 0, .ref q_1, .ref q_2, .int 0, .int 0, .null, .null, .null, .null, .null, .null, .null, .null, .null, .null])), (q_1, .inl (K 1, 8, .inr (.inl (fun _ => 0)))), (q_2, .inl (K 1, 6, .inr (.inl (fun _ => 0))))] := hD
  refine lv_aload_n hx hb dNl_init_20 rfl (lv_at hl 0 rfl) ?_
  refine lv_sipush (v := 180) hx hb dNl_init_21 (by decide) ?_
  refine cf_newa (D := D) (ty := .long) (N' := 180) (a0 := (180, .inr (.inl (fun _ => 0)))) hx hb (hts _ wv_257) rfl (fun _ h => h) hK 1 rfl hP hD hS hA (fun _ => rfl) (by decide) (by decide) (by decide) (Nat.le_of_ble_eq_true rfl) (Nat.le_of_ble_eq_true rfl) dNl_init_24 (fun q_3 H hP hD hS => ?_)
  refine W.widen (k := 3) (n := 194) (Nat.le_of_ble_eq_true rfl) (Nat.le_of_ble_eq_true rfl) ?_
  refine va_putF (D := D) (ci := 2) (v := .ref q_3) (ty := (.array .long)) (C := RNl) (T := TNl) (N := 17) hx hb hts inNl tyNl tyokNl nmNl hown hK hP hD hS 0 rfl rfl 7 (by decide) (hts _ wv_495) (fun _ h9 => h9) rfl hin rfl (by decide +kernel) rfl rfl (Nat.le_of_ble_eq_true rfl) dNl_init_26 (fun H locs hP hD hS => ?_)
  have hP : va_P D vwCl [(h0, .inr (2, [.int 0, .int 0, .int 0, .ref q_1, .ref q_2, .int 0, .int 0, .ref q_3, .null, .null, .null, .null, .null, .null, .null, .null, .null])), (q_1, .inl (K 1, 8, .inr (.inl (fun _ => 0)))), (q_2, .inl (K 1, 6, .inr (.inl (fun _ => 0)))), (q_3, .inl (K 1, 180, .inr (.inl (fun _ => 0))))] H := hP
  have hD : va_D A [(h0, .inr (2, [.int 0, .int 0, .int 0, .ref q_1, .ref q_2, .int 0, .int 0, .ref q_3, .null, .null, .null, .null, .null, .null, .null, .null, .null])), (q_1, .inl (K 1, 8, .inr (.inl (fun _ => 0)))), (q_2, .inl (K 1, 6, .inr (.inl (fun _ => 0)))), (q_3, .inl (K 1, 180, .inr (.inl (fun _ => 0))))] := hD
  refine lv_aload_n hx hb dNl_init_29 rfl (lv_at hl 0 rfl) ?_
  refine lv_bipush (v := 30) hx hb dNl_init_30 (by decide) ?_
  refine cf_newa (D := D) (ty := .int) (N' := 30) (a0 := (30, .inl (fun _ => 0))) hx hb (hts _ wv_233) rfl (fun _ h => h) hK 0 rfl hP hD hS hA (fun _ => rfl) (by decide) (by decide) (by decide) (Nat.le_of_ble_eq_true rfl) (Nat.le_of_ble_eq_true rfl) dNl_init_32 (fun q_4 H hP hD hS => ?_)
  refine W.widen (k := 4) (n := 224) (Nat.le_of_ble_eq_true rfl) (Nat.le_of_ble_eq_true rfl) ?_
  refine va_putF (D := D) (ci := 2) (v := .ref q_4) (ty := (.array .int)) (C := RNl) (T := TNl) (N := 17) hx hb hts inNl tyNl tyokNl nmNl hown hK hP hD hS 0 rfl rfl 8 (by decide) (hts _ wv_496) (fun _ h9 => h9) rfl hin rfl (by decide +kernel) rfl rfl (Nat.le_of_ble_eq_true rfl) dNl_init_34 (fun H locs hP hD hS => ?_)
  have hP : va_P D vwCl [(h0, .inr (2, [.int 0, .int 0, .int 0, .ref q_1, .ref q_2, .int 0, .int 0, .ref q_3, .ref q_4, .null, .null, .null, .null, .null, .null, .null, .null])), (q_1, .inl (K 1, 8, .inr (.inl (fun _ => 0)))), (q_2, .inl (K 1, 6, .inr (.inl (fun _ => 0)))), (q_3, .inl (K 1, 180, .inr (.inl (fun _ => 0)))), (q_4, .inl (K 0, 30, .inl (fun _ => 0)))] H := hP
  have hD : va_D A [(h0, .inr (2, [.int 0, .int 0, .int 0, .ref q_1, .ref q_2, .int 0, .int 0, .ref q_3, .ref q_4, .null, .null, .null, .null, .null, .null, .null, .null])), (q_1, .inl (K 1, 8, .inr (.inl (fun _ => 0)))), (q_2, .inl (K 1, 6, .inr (.inl (fun _ => 0)))), (q_3, .inl (K 1, 180, .inr (.inl (fun _ => 0)))), (q_4, .inl (K 0, 30, .inl (fun _ => 0)))] := hD
  refine lv_aload_n hx hb dNl_init_37 rfl (lv_at hl 0 rfl) ?_
  refine lv_bipush (v := 30) hx hb dNl_init_38 (by decide) ?_
  refine cf_newa (D := D) (ty := .int) (N' := 30) (a0 := (30, .inl (fun _ => 0))) hx hb (hts _ wv_233) rfl (fun _ h => h) hK 0 rfl hP hD hS hA (fun _ => rfl) (by decide) (by decide) (by decide) (Nat.le_of_ble_eq_true rfl) (Nat.le_of_ble_eq_true rfl) dNl_init_40 (fun q_5 H hP hD hS => ?_)
  refine W.widen (k := 5) (n := 254) (Nat.le_of_ble_eq_true rfl) (Nat.le_of_ble_eq_true rfl) ?_
  refine va_putF (D := D) (ci := 2) (v := .ref q_5) (ty := (.array .int)) (C := RNl) (T := TNl) (N := 17) hx hb hts inNl tyNl tyokNl nmNl hown hK hP hD hS 0 rfl rfl 9 (by decide) (hts _ wv_497) (fun _ h9 => h9) rfl hin rfl (by decide +kernel) rfl rfl (Nat.le_of_ble_eq_true rfl) dNl_init_42 (fun H locs hP hD hS => ?_)
  have hP : va_P D vwCl [(h0, .inr (2, [.int 0, .int 0, .int 0, .ref q_1, .ref q_2, .int 0, .int 0, .ref q_3, .ref q_4, .ref q_5, .null, .null, .null, .null, .null, .null, .null])), (q_1, .inl (K 1, 8, .inr (.inl (fun _ => 0)))), (q_2, .inl (K 1, 6, .inr (.inl (fun _ => 0)))), (q_3, .inl (K 1, 180, .inr (.inl (fun _ => 0)))), (q_4, .inl (K 0, 30, .inl (fun _ => 0))), (q_5, .inl (K 0, 30, .inl (fun _ => 0)))] H := hP
  have hD : va_D A [(h0, .inr (2, [.int 0, .int 0, .int 0, .ref q_1, .ref q_2, .int 0, .int 0, .ref q_3, .ref q_4, .ref q_5, .null, .null, .null, .null, .null, .null, .null])), (q_1, .inl (K 1, 8, .inr (.inl (fun _ => 0)))), (q_2, .inl (K 1, 6, .inr (.inl (fun _ => 0)))), (q_3, .inl (K 1, 180, .inr (.inl (fun _ => 0)))), (q_4, .inl (K 0, 30, .inl (fun _ => 0))), (q_5, .inl (K 0, 30, .inl (fun _ => 0)))] := hD
  refine lv_aload_n hx hb dNl_init_45 rfl (lv_at hl 0 rfl) ?_
  refine lv_bipush (v := 30) hx hb dNl_init_46 (by decide) ?_
  refine cf_newa (D := D) (ty := .int) (N' := 30) (a0 := (30, .inl (fun _ => 0))) hx hb (hts _ wv_233) rfl (fun _ h => h) hK 0 rfl hP hD hS hA (fun _ => rfl) (by decide) (by decide) (by decide) (Nat.le_of_ble_eq_true rfl) (Nat.le_of_ble_eq_true rfl) dNl_init_48 (fun q_6 H hP hD hS => ?_)
  refine W.widen (k := 6) (n := 284) (Nat.le_of_ble_eq_true rfl) (Nat.le_of_ble_eq_true rfl) ?_
  refine va_putF (D := D) (ci := 2) (v := .ref q_6) (ty := (.array .int)) (C := RNl) (T := TNl) (N := 17) hx hb hts inNl tyNl tyokNl nmNl hown hK hP hD hS 0 rfl rfl 10 (by decide) (hts _ wv_498) (fun _ h9 => h9) rfl hin rfl (by decide +kernel) rfl rfl (Nat.le_of_ble_eq_true rfl) dNl_init_50 (fun H locs hP hD hS => ?_)
  have hP : va_P D vwCl [(h0, .inr (2, [.int 0, .int 0, .int 0, .ref q_1, .ref q_2, .int 0, .int 0, .ref q_3, .ref q_4, .ref q_5, .ref q_6, .null, .null, .null, .null, .null, .null])), (q_1, .inl (K 1, 8, .inr (.inl (fun _ => 0)))), (q_2, .inl (K 1, 6, .inr (.inl (fun _ => 0)))), (q_3, .inl (K 1, 180, .inr (.inl (fun _ => 0)))), (q_4, .inl (K 0, 30, .inl (fun _ => 0))), (q_5, .inl (K 0, 30, .inl (fun _ => 0))), (q_6, .inl (K 0, 30, .inl (fun _ => 0)))] H := hP
  have hD : va_D A [(h0, .inr (2, [.int 0, .int 0, .int 0, .ref q_1, .ref q_2, .int 0, .int 0, .ref q_3, .ref q_4, .ref q_5, .ref q_6, .null, .null, .null, .null, .null, .null])), (q_1, .inl (K 1, 8, .inr (.inl (fun _ => 0)))), (q_2, .inl (K 1, 6, .inr (.inl (fun _ => 0)))), (q_3, .inl (K 1, 180, .inr (.inl (fun _ => 0)))), (q_4, .inl (K 0, 30, .inl (fun _ => 0))), (q_5, .inl (K 0, 30, .inl (fun _ => 0))), (q_6, .inl (K 0, 30, .inl (fun _ => 0)))] := hD
  refine lv_aload_n hx hb dNl_init_53 rfl (lv_at hl 0 rfl) ?_
  refine lv_bipush (v := 30) hx hb dNl_init_54 (by decide) ?_
  refine cf_newa (D := D) (ty := .int) (N' := 30) (a0 := (30, .inl (fun _ => 0))) hx hb (hts _ wv_233) rfl (fun _ h => h) hK 0 rfl hP hD hS hA (fun _ => rfl) (by decide) (by decide) (by decide) (Nat.le_of_ble_eq_true rfl) (Nat.le_of_ble_eq_true rfl) dNl_init_56 (fun q_7 H hP hD hS => ?_)
  refine W.widen (k := 7) (n := 314) (Nat.le_of_ble_eq_true rfl) (Nat.le_of_ble_eq_true rfl) ?_
  refine va_putF (D := D) (ci := 2) (v := .ref q_7) (ty := (.array .int)) (C := RNl) (T := TNl) (N := 17) hx hb hts inNl tyNl tyokNl nmNl hown hK hP hD hS 0 rfl rfl 11 (by decide) (hts _ wv_499) (fun _ h9 => h9) rfl hin rfl (by decide +kernel) rfl rfl (Nat.le_of_ble_eq_true rfl) dNl_init_58 (fun H locs hP hD hS => ?_)
  have hP : va_P D vwCl [(h0, .inr (2, [.int 0, .int 0, .int 0, .ref q_1, .ref q_2, .int 0, .int 0, .ref q_3, .ref q_4, .ref q_5, .ref q_6, .ref q_7, .null, .null, .null, .null, .null])), (q_1, .inl (K 1, 8, .inr (.inl (fun _ => 0)))), (q_2, .inl (K 1, 6, .inr (.inl (fun _ => 0)))), (q_3, .inl (K 1, 180, .inr (.inl (fun _ => 0)))), (q_4, .inl (K 0, 30, .inl (fun _ => 0))), (q_5, .inl (K 0, 30, .inl (fun _ => 0))), (q_6, .inl (K 0, 30, .inl (fun _ => 0))), (q_7, .inl (K 0, 30, .inl (fun _ => 0)))] H := hP
  have hD : va_D A [(h0, .inr (2, [.int 0, .int 0, .int 0, .ref q_1, .ref q_2, .int 0, .int 0, .ref q_3, .ref q_4, .ref q_5, .ref q_6, .ref q_7, .null, .null, .null, .null, .null])), (q_1, .inl (K 1, 8, .inr (.inl (fun _ => 0)))), (q_2, .inl (K 1, 6, .inr (.inl (fun _ => 0)))), (q_3, .inl (K 1, 180, .inr (.inl (fun _ => 0)))), (q_4, .inl (K 0, 30, .inl (fun _ => 0))), (q_5, .inl (K 0, 30, .inl (fun _ => 0))), (q_6, .inl (K 0, 30, .inl (fun _ => 0))), (q_7, .inl (K 0, 30, .inl (fun _ => 0)))] := hD
  refine lv_aload_n hx hb dNl_init_61 rfl (lv_at hl 0 rfl) ?_
  refine lv_sipush (v := 480) hx hb dNl_init_62 (by decide) ?_
  refine cf_newa (D := D) (ty := .int) (N' := 480) (a0 := (480, .inl (fun _ => 0))) hx hb (hts _ wv_233) rfl (fun _ h => h) hK 0 rfl hP hD hS hA (fun _ => rfl) (by decide) (by decide) (by decide) (Nat.le_of_ble_eq_true rfl) (Nat.le_of_ble_eq_true rfl) dNl_init_65 (fun q_8 H hP hD hS => ?_)
  refine W.widen (k := 8) (n := 794) (Nat.le_of_ble_eq_true rfl) (Nat.le_of_ble_eq_true rfl) ?_
  refine va_putF (D := D) (ci := 2) (v := .ref q_8) (ty := (.array .int)) (C := RNl) (T := TNl) (N := 17) hx hb hts inNl tyNl tyokNl nmNl hown hK hP hD hS 0 rfl rfl 12 (by decide) (hts _ wv_500) (fun _ h9 => h9) rfl hin rfl (by decide +kernel) rfl rfl (Nat.le_of_ble_eq_true rfl) dNl_init_67 (fun H locs hP hD hS => ?_)
  have hP : va_P D vwCl [(h0, .inr (2, [.int 0, .int 0, .int 0, .ref q_1, .ref q_2, .int 0, .int 0, .ref q_3, .ref q_4, .ref q_5, .ref q_6, .ref q_7, .ref q_8, .null, .null, .null, .null])), (q_1, .inl (K 1, 8, .inr (.inl (fun _ => 0)))), (q_2, .inl (K 1, 6, .inr (.inl (fun _ => 0)))), (q_3, .inl (K 1, 180, .inr (.inl (fun _ => 0)))), (q_4, .inl (K 0, 30, .inl (fun _ => 0))), (q_5, .inl (K 0, 30, .inl (fun _ => 0))), (q_6, .inl (K 0, 30, .inl (fun _ => 0))), (q_7, .inl (K 0, 30, .inl (fun _ => 0))), (q_8, .inl (K 0, 480, .inl (fun _ => 0)))] H := hP
  have hD : va_D A [(h0, .inr (2, [.int 0, .int 0, .int 0, .ref q_1, .ref q_2, .int 0, .int 0, .ref q_3, .ref q_4, .ref q_5, .ref q_6, .ref q_7, .ref q_8, .null, .null, .null, .null])), (q_1, .inl (K 1, 8, .inr (.inl (fun _ => 0)))), (q_2, .inl (K 1, 6, .inr (.inl (fun _ => 0)))), (q_3, .inl (K 1, 180, .inr (.inl (fun _ => 0)))), (q_4, .inl (K 0, 30, .inl (fun _ => 0))), (q_5, .inl (K 0, 30, .inl (fun _ => 0))), (q_6, .inl (K 0, 30, .inl (fun _ => 0))), (q_7, .inl (K 0, 30, .inl (fun _ => 0))), (q_8, .inl (K 0, 480, .inl (fun _ => 0)))] := hD
  refine lv_aload_n hx hb dNl_init_70 rfl (lv_at hl 0 rfl) ?_
  refine lv_sipush (v := 180) hx hb dNl_init_71 (by decide) ?_
  refine cf_newa (D := D) (ty := .int) (N' := 180) (a0 := (180, .inl (fun _ => 0))) hx hb (hts _ wv_233) rfl (fun _ h => h) hK 0 rfl hP hD hS hA (fun _ => rfl) (by decide) (by decide) (by decide) (Nat.le_of_ble_eq_true rfl) (Nat.le_of_ble_eq_true rfl) dNl_init_74 (fun q_9 H hP hD hS => ?_)
  refine W.widen (k := 9) (n := 974) (Nat.le_of_ble_eq_true rfl) (Nat.le_of_ble_eq_true rfl) ?_
  refine va_putF (D := D) (ci := 2) (v := .ref q_9) (ty := (.array .int)) (C := RNl) (T := TNl) (N := 17) hx hb hts inNl tyNl tyokNl nmNl hown hK hP hD hS 0 rfl rfl 13 (by decide) (hts _ wv_501) (fun _ h9 => h9) rfl hin rfl (by decide +kernel) rfl rfl (Nat.le_of_ble_eq_true rfl) dNl_init_76 (fun H locs hP hD hS => ?_)
  have hP : va_P D vwCl [(h0, .inr (2, [.int 0, .int 0, .int 0, .ref q_1, .ref q_2, .int 0, .int 0, .ref q_3, .ref q_4, .ref q_5, .ref q_6, .ref q_7, .ref q_8, .ref q_9, .null, .null, .null])), (q_1, .inl (K 1, 8, .inr (.inl (fun _ => 0)))), (q_2, .inl (K 1, 6, .inr (.inl (fun _ => 0)))), (q_3, .inl (K 1, 180, .inr (.inl (fun _ => 0)))), (q_4, .inl (K 0, 30, .inl (fun _ => 0))), (q_5, .inl (K 0, 30, .inl (fun _ => 0))), (q_6, .inl (K 0, 30, .inl (fun _ => 0))), (q_7, .inl (K 0, 30, .inl (fun _ => 0))), (q_8, .inl (K 0, 480, .inl (fun _ => 0))), (q_9, .inl (K 0, 180, .inl (fun _ => 0)))] H := hP
  have hD : va_D A [(h0, .inr (2, [.int 0, .int 0, .int 0, .ref q_1, .ref q_2, .int 0, .int 0, .ref q_3, .ref q_4, .ref q_5, .ref q_6, .ref q_7, .ref q_8, .ref q_9, .null, .null, .null])), (q_1, .inl (K 1, 8, .inr (.inl (fun _ => 0)))), (q_2, .inl (K 1, 6, .inr (.inl (fun _ => 0)))), (q_3, .inl (K 1, 180, .inr (.inl (fun _ => 0)))), (q_4, .inl (K 0, 30, .inl (fun _ => 0))), (q_5, .inl (K 0, 30, .inl (fun _ => 0))), (q_6, .inl (K 0, 30, .inl (fun _ => 0))), (q_7, .inl (K 0, 30, .inl (fun _ => 0))), (q_8, .inl (K 0, 480, .inl (fun _ => 0))), (q_9, .inl (K 0, 180, .inl (fun _ => 0)))] := hD
  refine lv_aload_n hx hb dNl_init_79 rfl (lv_at hl 0 rfl) ?_
  refine lv_bipush (v := 6) hx hb dNl_init_80 (by decide) ?_
  refine cf_newa (D := D) (ty := .int) (N' := 6) (a0 := (6, .inl (fun _ => 0))) hx hb (hts _ wv_233) rfl (fun _ h => h) hK 0 rfl hP hD hS hA (fun _ => rfl) (by decide) (by decide) (by decide) (Nat.le_of_ble_eq_true rfl) (Nat.le_of_ble_eq_true rfl) dNl_init_82 (fun q_10 H hP hD hS => ?_)
  refine W.widen (k := 10) (n := 980) (Nat.le_of_ble_eq_true rfl) (Nat.le_of_ble_eq_true rfl) ?_
  refine va_putF (D := D) (ci := 2) (v := .ref q_10) (ty := (.array .int)) (C := RNl) (T := TNl) (N := 17) hx hb hts inNl tyNl tyokNl nmNl hown hK hP hD hS 0 rfl rfl 14 (by decide) (hts _ wv_502) (fun _ h9 => h9) rfl hin rfl (by decide +kernel) rfl rfl (Nat.le_of_ble_eq_true rfl) dNl_init_84 (fun H locs hP hD hS => ?_)
  have hP : va_P D vwCl [(h0, .inr (2, [.int 0, .int 0, .int 0, .ref q_1, .ref q_2, .int 0, .int 0, .ref q_3, .ref q_4, .ref q_5, .ref q_6, .ref q_7, .ref q_8, .ref q_9, .ref q_10, .null, .null])), (q_1, .inl (K 1, 8, .inr (.inl (fun _ => 0)))), (q_2, .inl (K 1, 6, .inr (.inl (fun _ => 0)))), (q_3, .inl (K 1, 180, .inr (.inl (fun _ => 0)))), (q_4, .inl (K 0, 30, .inl (fun _ => 0))), (q_5, .inl (K 0, 30, .inl (fun _ => 0))), (q_6, .inl (K 0, 30, .inl (fun _ => 0))), (q_7, .inl (K 0, 30, .inl (fun _ => 0))), (q_8, .inl (K 0, 480, .inl (fun _ => 0))), (q_9, .inl (K 0, 180, .inl (fun _ => 0))), (q_10, .inl (K 0, 6, .inl (fun _ => 0)))] H := hP
  have hD : va_D A [(h0, .inr (2, [.int 0, .int 0, .int 0, .ref q_1, .ref q_2, .int 0, .int 0, .ref q_3, .ref q_4, .ref q_5, .ref q_6, .ref q_7, .ref q_8, .ref q_9, .ref q_10, .null, .null])), (q_1, .inl (K 1, 8, .inr (.inl (fun _ => 0)))), (q_2, .inl (K 1, 6, .inr (.inl (fun _ => 0)))), (q_3, .inl (K 1, 180, .inr (.inl (fun _ => 0)))), (q_4, .inl (K 0, 30, .inl (fun _ => 0))), (q_5, .inl (K 0, 30, .inl (fun _ => 0))), (q_6, .inl (K 0, 30, .inl (fun _ => 0))), (q_7, .inl (K 0, 30, .inl (fun _ => 0))), (q_8, .inl (K 0, 480, .inl (fun _ => 0))), (q_9, .inl (K 0, 180, .inl (fun _ => 0))), (q_10, .inl (K 0, 6, .inl (fun _ => 0)))] := hD
  refine lv_aload_n hx hb dNl_init_87 rfl (lv_at hl 0 rfl) ?_
  refine lv_bipush (v := 30) hx hb dNl_init_88 (by decide) ?_
  refine cf_newa (D := D) (ty := .int) (N' := 30) (a0 := (30, .inl (fun _ => 0))) hx hb (hts _ wv_233) rfl (fun _ h => h) hK 0 rfl hP hD hS hA (fun _ => rfl) (by decide) (by decide) (by decide) (Nat.le_of_ble_eq_true rfl) (Nat.le_of_ble_eq_true rfl) dNl_init_90 (fun q_11 H hP hD hS => ?_)
  refine W.widen (k := 11) (n := 1010) (Nat.le_of_ble_eq_true rfl) (Nat.le_of_ble_eq_true rfl) ?_
  refine va_putF (D := D) (ci := 2) (v := .ref q_11) (ty := (.array .int)) (C := RNl) (T := TNl) (N := 17) hx hb hts inNl tyNl tyokNl nmNl hown hK hP hD hS 0 rfl rfl 15 (by decide) (hts _ wv_503) (fun _ h9 => h9) rfl hin rfl (by decide +kernel) rfl rfl (Nat.le_of_ble_eq_true rfl) dNl_init_92 (fun H locs hP hD hS => ?_)
  have hP : va_P D vwCl [(h0, .inr (2, [.int 0, .int 0, .int 0, .ref q_1, .ref q_2, .int 0, .int 0, .ref q_3, .ref q_4, .ref q_5, .ref q_6, .ref q_7, .ref q_8, .ref q_9, .ref q_10, .ref q_11, .null])), (q_1, .inl (K 1, 8, .inr (.inl (fun _ => 0)))), (q_2, .inl (K 1, 6, .inr (.inl (fun _ => 0)))), (q_3, .inl (K 1, 180, .inr (.inl (fun _ => 0)))), (q_4, .inl (K 0, 30, .inl (fun _ => 0))), (q_5, .inl (K 0, 30, .inl (fun _ => 0))), (q_6, .inl (K 0, 30, .inl (fun _ => 0))), (q_7, .inl (K 0, 30, .inl (fun _ => 0))), (q_8, .inl (K 0, 480, .inl (fun _ => 0))), (q_9, .inl (K 0, 180, .inl (fun _ => 0))), (q_10, .inl (K 0, 6, .inl (fun _ => 0))), (q_11, .inl (K 0, 30, .inl (fun _ => 0)))] H := hP
  have hD : va_D A [(h0, .inr (2, [.int 0, .int 0, .int 0, .ref q_1, .ref q_2, .int 0, .int 0, .ref q_3, .ref q_4, .ref q_5, .ref q_6, .ref q_7, .ref q_8, .ref q_9, .ref q_10, .ref q_11, .null])), (q_1, .inl (K 1, 8, .inr (.inl (fun _ => 0)))), (q_2, .inl (K 1, 6, .inr (.inl (fun _ => 0)))), (q_3, .inl (K 1, 180, .inr (.inl (fun _ => 0)))), (q_4, .inl (K 0, 30, .inl (fun _ => 0))), (q_5, .inl (K 0, 30, .inl (fun _ => 0))), (q_6, .inl (K 0, 30, .inl (fun _ => 0))), (q_7, .inl (K 0, 30, .inl (fun _ => 0))), (q_8, .inl (K 0, 480, .inl (fun _ => 0))), (q_9, .inl (K 0, 180, .inl (fun _ => 0))), (q_10, .inl (K 0, 6, .inl (fun _ => 0))), (q_11, .inl (K 0, 30, .inl (fun _ => 0)))] := hD
  refine lv_aload_n hx hb dNl_init_95 rfl (lv_at hl 0 rfl) ?_
  refine lv_bipush (v := 30) hx hb dNl_init_96 (by decide) ?_
  refine cf_newa (D := D) (ty := .int) (N' := 30) (a0 := (30, .inl (fun _ => 0))) hx hb (hts _ wv_233) rfl (fun _ h => h) hK 0 rfl hP hD hS hA (fun _ => rfl) (by decide) (by decide) (by decide) (Nat.le_of_ble_eq_true rfl) (Nat.le_of_ble_eq_true rfl) dNl_init_98 (fun q_12 H hP hD hS => ?_)
  refine W.widen (k := 12) (n := 1040) (Nat.le_of_ble_eq_true rfl) (Nat.le_of_ble_eq_true rfl) ?_
  refine va_putF (D := D) (ci := 2) (v := .ref q_12) (ty := (.array .int)) (C := RNl) (T := TNl) (N := 17) hx hb hts inNl tyNl tyokNl nmNl hown hK hP hD hS 0 rfl rfl 16 (by decide) (hts _ wv_504) (fun _ h9 => h9) rfl hin rfl (by decide +kernel) rfl rfl (Nat.le_of_ble_eq_true rfl) dNl_init_100 (fun H locs hP hD hS => ?_)
  have hP : va_P D vwCl [(h0, .inr (2, [.int 0, .int 0, .int 0, .ref q_1, .ref q_2, .int 0, .int 0, .ref q_3, .ref q_4, .ref q_5, .ref q_6, .ref q_7, .ref q_8, .ref q_9, .ref q_10, .ref q_11, .ref q_12])), (q_1, .inl (K 1, 8, .inr (.inl (fun _ => 0)))), (q_2, .inl (K 1, 6, .inr (.inl (fun _ => 0)))), (q_3, .inl (K 1, 180, .inr (.inl (fun _ => 0)))), (q_4, .inl (K 0, 30, .inl (fun _ => 0))), (q_5, .inl (K 0, 30, .inl (fun _ => 0))), (q_6, .inl (K 0, 30, .inl (fun _ => 0))), (q_7, .inl (K 0, 30, .inl (fun _ => 0))), (q_8, .inl (K 0, 480, .inl (fun _ => 0))), (q_9, .inl (K 0, 180, .inl (fun _ => 0))), (q_10, .inl (K 0, 6, .inl (fun _ => 0))), (q_11, .inl (K 0, 30, .inl (fun _ => 0))), (q_12, .inl (K 0, 30, .inl (fun _ => 0)))] H := hP
  have hD : va_D A [(h0, .inr (2, [.int 0, .int 0, .int 0, .ref q_1, .ref q_2, .int 0, .int 0, .ref q_3, .ref q_4, .ref q_5, .ref q_6, .ref q_7, .ref q_8, .ref q_9, .ref q_10, .ref q_11, .ref q_12])), (q_1, .inl (K 1, 8, .inr (.inl (fun _ => 0)))), (q_2, .inl (K 1, 6, .inr (.inl (fun _ => 0)))), (q_3, .inl (K 1, 180, .inr (.inl (fun _ => 0)))), (q_4, .inl (K 0, 30, .inl (fun _ => 0))), (q_5, .inl (K 0, 30, .inl (fun _ => 0))), (q_6, .inl (K 0, 30, .inl (fun _ => 0))), (q_7, .inl (K 0, 30, .inl (fun _ => 0))), (q_8, .inl (K 0, 480, .inl (fun _ => 0))), (q_9, .inl (K 0, 180, .inl (fun _ => 0))), (q_10, .inl (K 0, 6, .inl (fun _ => 0))), (q_11, .inl (K 0, 30, .inl (fun _ => 0))), (q_12, .inl (K 0, 30, .inl (fun _ => 0)))] := hD
  exact cf_vret hx hb hr hlocks (fun k => ([q_1, q_2, q_3, q_4, q_5, q_6, q_7, q_8, q_9, q_10, q_11, q_12] : List Nat).getD k 0) trivial hP hD hS [0, 1, 2, 3, 4, 5, 6, 7, 8, 9, 10, 11, 12] rfl (by decide +kernel) (Nat.le_of_ble_eq_true rfl) (Nat.le_of_ble_eq_true rfl) dNl_init_103
set_option maxHeartbeats 4000000 in
set_option maxRecDepth 100000 in
theorem kGr_init (l : Launch) (D : va_G) (K : Nat → ClassId) (sz : Nat) (h0 : Nat) : Met l yGr_init (Cond.code yGr_init cGr_init 1 (Option.none : Option Jvm.ClassFile.FieldType) :: cfB) ({ frames := 1, cells := 6, slots := 1260, locals := 16 }) (va_Pc [.ref h0] (cf_Pre D K sz [(h0, .inr (3, [.int 0, .int 0, .int 0, .int 0, .null, .null, .null, .null, .null, .null]))])) (va_Qv (fun (u : Nat → Nat) => True) (fun (u : Nat → Nat) t => cf_At D (va_A [(h0, .inr (3, [.int 0, .int 0, .int 0, .int 0, .null, .null, .null, .null, .null, .null]))] sz) [(h0, .inr (3, [.int 0, .int 0, .int 0, .int 0, .ref (u 0), .ref (u 1), .ref (u 2), .ref (u 3), .ref (u 4), .ref (u 5)])), ((u 0), .inl (K 0, 209, .inl (fun _ => 0))), ((u 1), .inl (K 0, 209, .inl (fun _ => 0))), ((u 2), .inl (K 0, 209, .inl (fun _ => 0))), ((u 3), .inl (K 0, 6, .inl (fun _ => 0))), ((u 4), .inl (K 0, 418, .inl (fun _ => 0))), ((u 5), .inl (K 0, 209, .inl (fun _ => 0)))] t) (va_A [(h0, .inr (3, [.int 0, .int 0, .int 0, .int 0, .null, .null, .null, .null, .null, .null]))] sz)) 6 1260 (va_A [(h0, .inr (3, [.int 0, .int 0, .int 0, .int 0, .null, .null, .null, .null, .null, .null]))] sz) := by
  refine cf_ofW (y := yGr_init) (As := [.ref h0]) (WS := [(h0, .inr (3, [.int 0, .int 0, .int 0, .int 0, .null, .null, .null, .null, .null, .null]))]) (maxL := 1) (fun A => (va_Qv (fun (u : Nat → Nat) => True) (fun (u : Nat → Nat) t => cf_At D A [(h0, .inr (3, [.int 0, .int 0, .int 0, .int 0, .ref (u 0), .ref (u 1), .ref (u 2), .ref (u 3), .ref (u 4), .ref (u 5)])), ((u 0), .inl (K 0, 209, .inl (fun _ => 0))), ((u 1), .inl (K 0, 209, .inl (fun _ => 0))), ((u 2), .inl (K 0, 209, .inl (fun _ => 0))), ((u 3), .inl (K 0, 6, .inl (fun _ => 0))), ((u 4), .inl (K 0, 418, .inl (fun _ => 0))), ((u 5), .inl (K 0, 209, .inl (fun _ => 0)))] t) A)) (by decide) (Nat.le_of_ble_eq_true rfl) ?_
  intro p e s m below meth c A ls En hsz hA hP hD hE hS hl
  obtain ⟨hx, hb, hr, hts, hown, hlocks, hin, hml⟩ := En
  have hK := hE.k
  have hl : lv_has ls 1 [(0, .ref h0)] := hl
  refine lv_aload_n hx hb dGr_init_0 rfl (lv_at hl 0 rfl) ?_
  refine W.objInit hx hb hown (hts _ wv_545) (hts _ wv_197) (hts _ wv_198) rfl (by rw [hml]; exact hl.1) rfl dGr_init_1 (Nat.le_of_ble_eq_true rfl) (Nat.le_of_ble_eq_true rfl) ?_
  refine W.eq (g2 := F0 m 4 ls []) rfl ?_
  refine lv_aload_n hx hb dGr_init_4 rfl (lv_at hl 0 rfl) ?_
  refine lv_sipush (v := 209) hx hb dGr_init_5 (by decide) ?_
  refine cf_newa (D := D) (ty := .int) (N' := 209) (a0 := (209, .inl (fun _ => 0))) hx hb (hts _ wv_233) rfl (fun _ h => h) hK 0 rfl hP hD hS hA (fun _ => rfl) (by decide) (by decide) (by decide) (Nat.le_of_ble_eq_true rfl) (Nat.le_of_ble_eq_true rfl) dGr_init_8 (fun q_1 H hP hD hS => ?_)
  refine W.widen (k := 1) (n := 209) (Nat.le_of_ble_eq_true rfl) (Nat.le_of_ble_eq_true rfl) ?_
  refine va_putF (D := D) (ci := 3) (v := .ref q_1) (ty := (.array .int)) (C := RGr) (T := TGr) (N := 10) hx hb hts inGr tyGr tyokGr nmGr hown hK hP hD hS 0 rfl rfl 4 (by decide) (hts _ wv_560) (fun _ h9 => h9) rfl hin rfl (by decide +kernel) rfl rfl (Nat.le_of_ble_eq_true rfl) dGr_init_10 (fun H locs hP hD hS => ?_)
  have hP : va_P D vwCl [(h0, .inr (3, [.int 0, .int 0, .int 0, .int 0, .ref q_1, .null, .null, .null, .null, .null])), (q_1, .inl (K 0, 209, .inl (fun _ => 0)))] H := hP
  have hD : va_D A [(h0, .inr (3, [.int 0, .int 0, .int 0, .int 0, .ref q_1, .null, .null, .null, .null, .null])), (q_1, .inl (K 0, 209, .inl (fun _ => 0)))] := hD
  refine lv_aload_n hx hb dGr_init_13 rfl (lv_at hl 0 rfl) ?_
  refine lv_sipush (v := 209) hx hb dGr_init_14 (by decide) ?_
  refine cf_newa (D := D) (ty := .int) (N' := 209) (a0 := (209, .inl (fun _ => 0))) hx hb (hts _ wv_233) rfl (fun _ h => h) hK 0 rfl hP hD hS hA (fun _ => rfl) (by decide) (by decide) (by decide) (Nat.le_of_ble_eq_true rfl) (Nat.le_of_ble_eq_true rfl) dGr_init_17 (fun q_2 H hP hD hS => ?_)
  refine W.widen (k := 2) (n := 418) (Nat.le_of_ble_eq_true rfl) (Nat.le_of_ble_eq_true rfl) ?_
  refine va_putF (D := D) (ci := 3) (v := .ref q_2) (ty := (.array .int)) (C := RGr) (T := TGr) (N := 10) hx hb hts inGr tyGr tyokGr nmGr hown hK hP hD hS 0 rfl rfl 5 (by decide) (hts _ wv_566) (fun _ h9 => h9) rfl hin rfl (by decide +kernel) rfl rfl (Nat.le_of_ble_eq_true rfl) dGr_init_19 (fun H locs hP hD hS => ?_)
  have hP : va_P D vwCl [(h0, .inr (3, [.int 0, .int 0, .int 0, .int 0, .ref q_1, .ref q_2, .null, .null, .null, .null])), (q_1, .inl (K 0, 209, .inl (fun _ => 0))), (q_2, .inl (K 0, 209, .inl (fun _ => 0)))] H := hP
  have hD : va_D A [(h0, .inr (3, [.int 0, .int 0, .int 0, .int 0, .ref q_1, .ref q_2, .null, .null, .null, .null])), (q_1, .inl (K 0, 209, .inl (fun _ => 0))), (q_2, .inl (K 0, 209, .inl (fun _ => 0)))] := hD
  refine lv_aload_n hx hb dGr_init_22 rfl (lv_at hl 0 rfl) ?_
  refine lv_sipush (v := 209) hx hb dGr_init_23 (by decide) ?_
  refine cf_newa (D := D) (ty := .int) (N' := 209) (a0 := (209, .inl (fun _ => 0))) hx hb (hts _ wv_233) rfl (fun _ h => h) hK 0 rfl hP hD hS hA (fun _ => rfl) (by decide) (by decide) (by decide) (Nat.le_of_ble_eq_true rfl) (Nat.le_of_ble_eq_true rfl) dGr_init_26 (fun q_3 H hP hD hS => ?_)
  refine W.widen (k := 3) (n := 627) (Nat.le_of_ble_eq_true rfl) (Nat.le_of_ble_eq_true rfl) ?_
  refine va_putF (D := D) (ci := 3) (v := .ref q_3) (ty := (.array .int)) (C := RGr) (T := TGr) (N := 10) hx hb hts inGr tyGr tyokGr nmGr hown hK hP hD hS 0 rfl rfl 6 (by decide) (hts _ wv_572) (fun _ h9 => h9) rfl hin rfl (by decide +kernel) rfl rfl (Nat.le_of_ble_eq_true rfl) dGr_init_28 (fun H locs hP hD hS => ?_)
  have hP : va_P D vwCl [(h0, .inr (3, [.int 0, .int 0, .int 0, .int 0, .ref q_1, .ref q_2, .ref q_3, .null, .null, .null])), (q_1, .inl (K 0, 209, .inl (fun _ => 0))), (q_2, .inl (K 0, 209, .inl (fun _ => 0))), (q_3, .inl (K 0, 209, .inl (fun _ => 0)))] H := hP
  have hD : va_D A [(h0, .inr (3, [.int 0, .int 0, .int 0, .int 0, .ref q_1, .ref q_2, .ref q_3, .null, .null, .null])), (q_1, .inl (K 0, 209, .inl (fun _ => 0))), (q_2, .inl (K 0, 209, .inl (fun _ => 0))), (q_3, .inl (K 0, 209, .inl (fun _ => 0)))] := hD
  refine lv_aload_n hx hb dGr_init_31 rfl (lv_at hl 0 rfl) ?_
  refine lv_bipush (v := 6) hx hb dGr_init_32 (by decide) ?_
  refine cf_newa (D := D) (ty := .int) (N' := 6) (a0 := (6, .inl (fun _ => 0))) hx hb (hts _ wv_233) rfl (fun _ h => h) hK 0 rfl hP hD hS hA (fun _ => rfl) (by decide) (by decide) (by decide) (Nat.le_of_ble_eq_true rfl) (Nat.le_of_ble_eq_true rfl) dGr_init_34 (fun q_4 H hP hD hS => ?_)
  refine W.widen (k := 4) (n := 633) (Nat.le_of_ble_eq_true rfl) (Nat.le_of_ble_eq_true rfl) ?_
  refine va_putF (D := D) (ci := 3) (v := .ref q_4) (ty := (.array .int)) (C := RGr) (T := TGr) (N := 10) hx hb hts inGr tyGr tyokGr nmGr hown hK hP hD hS 0 rfl rfl 7 (by decide) (hts _ wv_575) (fun _ h9 => h9) rfl hin rfl (by decide +kernel) rfl rfl (Nat.le_of_ble_eq_true rfl) dGr_init_36 (fun H locs hP hD hS => ?_)
  have hP : va_P D vwCl [(h0, .inr (3, [.int 0, .int 0, .int 0, .int 0, .ref q_1, .ref q_2, .ref q_3, .ref q_4, .null, .null])), (q_1, .inl (K 0, 209, .inl (fun _ => 0))), (q_2, .inl (K 0, 209, .inl (fun _ => 0))), (q_3, .inl (K 0, 209, .inl (fun _ => 0))), (q_4, .inl (K 0, 6, .inl (fun _ => 0)))] H := hP
  have hD : va_D A [(h0, .inr (3, [.int 0, .int 0, .int 0, .int 0, .ref q_1, .ref q_2, .ref q_3, .ref q_4, .null, .null])), (q_1, .inl (K 0, 209, .inl (fun _ => 0))), (q_2, .inl (K 0, 209, .inl (fun _ => 0))), (q_3, .inl (K 0, 209, .inl (fun _ => 0))), (q_4, .inl (K 0, 6, .inl (fun _ => 0)))] := hD
  refine lv_aload_n hx hb dGr_init_39 rfl (lv_at hl 0 rfl) ?_
  refine lv_sipush (v := 418) hx hb dGr_init_40 (by decide) ?_
  refine cf_newa (D := D) (ty := .int) (N' := 418) (a0 := (418, .inl (fun _ => 0))) hx hb (hts _ wv_233) rfl (fun _ h => h) hK 0 rfl hP hD hS hA (fun _ => rfl) (by decide) (by decide) (by decide) (Nat.le_of_ble_eq_true rfl) (Nat.le_of_ble_eq_true rfl) dGr_init_43 (fun q_5 H hP hD hS => ?_)
  refine W.widen (k := 5) (n := 1051) (Nat.le_of_ble_eq_true rfl) (Nat.le_of_ble_eq_true rfl) ?_
  refine va_putF (D := D) (ci := 3) (v := .ref q_5) (ty := (.array .int)) (C := RGr) (T := TGr) (N := 10) hx hb hts inGr tyGr tyokGr nmGr hown hK hP hD hS 0 rfl rfl 8 (by decide) (hts _ wv_581) (fun _ h9 => h9) rfl hin rfl (by decide +kernel) rfl rfl (Nat.le_of_ble_eq_true rfl) dGr_init_45 (fun H locs hP hD hS => ?_)
  have hP : va_P D vwCl [(h0, .inr (3, [.int 0, .int 0, .int 0, .int 0, .ref q_1, .ref q_2, .ref q_3, .ref q_4, .ref q_5, .null])), (q_1, .inl (K 0, 209, .inl (fun _ => 0))), (q_2, .inl (K 0, 209, .inl (fun _ => 0))), (q_3, .inl (K 0, 209, .inl (fun _ => 0))), (q_4, .inl (K 0, 6, .inl (fun _ => 0))), (q_5, .inl (K 0, 418, .inl (fun _ => 0)))] H := hP
  have hD : va_D A [(h0, .inr (3, [.int 0, .int 0, .int 0, .int 0, .ref q_1, .ref q_2, .ref q_3, .ref q_4, .ref q_5, .null])), (q_1, .inl (K 0, 209, .inl (fun _ => 0))), (q_2, .inl (K 0, 209, .inl (fun _ => 0))), (q_3, .inl (K 0, 209, .inl (fun _ => 0))), (q_4, .inl (K 0, 6, .inl (fun _ => 0))), (q_5, .inl (K 0, 418, .inl (fun _ => 0)))] := hD
  refine lv_aload_n hx hb dGr_init_48 rfl (lv_at hl 0 rfl) ?_
  refine lv_sipush (v := 209) hx hb dGr_init_49 (by decide) ?_
  refine cf_newa (D := D) (ty := .int) (N' := 209) (a0 := (209, .inl (fun _ => 0))) hx hb (hts _ wv_233) rfl (fun _ h => h) hK 0 rfl hP hD hS hA (fun _ => rfl) (by decide) (by decide) (by decide) (Nat.le_of_ble_eq_true rfl) (Nat.le_of_ble_eq_true rfl) dGr_init_52 (fun q_6 H hP hD hS => ?_)
  refine W.widen (k := 6) (n := 1260) (Nat.le_of_ble_eq_true rfl) (Nat.le_of_ble_eq_true rfl) ?_
  refine va_putF (D := D) (ci := 3) (v := .ref q_6) (ty := (.array .int)) (C := RGr) (T := TGr) (N := 10) hx hb hts inGr tyGr tyokGr nmGr hown hK hP hD hS 0 rfl rfl 9 (by decide) (hts _ wv_582) (fun _ h9 => h9) rfl hin rfl (by decide +kernel) rfl rfl (Nat.le_of_ble_eq_true rfl) dGr_init_54 (fun H locs hP hD hS => ?_)
  have hP : va_P D vwCl [(h0, .inr (3, [.int 0, .int 0, .int 0, .int 0, .ref q_1, .ref q_2, .ref q_3, .ref q_4, .ref q_5, .ref q_6])), (q_1, .inl (K 0, 209, .inl (fun _ => 0))), (q_2, .inl (K 0, 209, .inl (fun _ => 0))), (q_3, .inl (K 0, 209, .inl (fun _ => 0))), (q_4, .inl (K 0, 6, .inl (fun _ => 0))), (q_5, .inl (K 0, 418, .inl (fun _ => 0))), (q_6, .inl (K 0, 209, .inl (fun _ => 0)))] H := hP
  have hD : va_D A [(h0, .inr (3, [.int 0, .int 0, .int 0, .int 0, .ref q_1, .ref q_2, .ref q_3, .ref q_4, .ref q_5, .ref q_6])), (q_1, .inl (K 0, 209, .inl (fun _ => 0))), (q_2, .inl (K 0, 209, .inl (fun _ => 0))), (q_3, .inl (K 0, 209, .inl (fun _ => 0))), (q_4, .inl (K 0, 6, .inl (fun _ => 0))), (q_5, .inl (K 0, 418, .inl (fun _ => 0))), (q_6, .inl (K 0, 209, .inl (fun _ => 0)))] := hD
  exact cf_vret hx hb hr hlocks (fun k => ([q_1, q_2, q_3, q_4, q_5, q_6] : List Nat).getD k 0) trivial hP hD hS [0, 1, 2, 3, 4, 5, 6] rfl (by decide +kernel) (Nat.le_of_ble_eq_true rfl) (Nat.le_of_ble_eq_true rfl) dGr_init_57
set_option maxHeartbeats 4000000 in
set_option maxRecDepth 100000 in
theorem kLi_init (l : Launch) (D : va_G) (K : Nat → ClassId) (sz : Nat) (h0 : Nat) : Met l yLi_init (Cond.code yLi_init cLi_init 1 (Option.none : Option Jvm.ClassFile.FieldType) :: cfB) ({ frames := 1, cells := 9, slots := 2300, locals := 16 }) (va_Pc [.ref h0] (cf_Pre D K sz [(h0, .inr (11, [.int 0, .int 0, .null, .null, .null, .null, .null, .int 0, .null, .null, .null, .null]))])) (va_Qv (fun (u : Nat → Nat) => True) (fun (u : Nat → Nat) t => cf_At D (va_A [(h0, .inr (11, [.int 0, .int 0, .null, .null, .null, .null, .null, .int 0, .null, .null, .null, .null]))] sz) [(h0, .inr (11, [.int 0, .int 0, .ref (u 0), .ref (u 1), .ref (u 2), .ref (u 3), .ref (u 4), .int 0, .ref (u 5), .ref (u 6), .ref (u 7), .ref (u 8)])), ((u 0), .inl (K 1, 12, .inr (.inl (fun _ => 0)))), ((u 1), .inl (K 0, 12, .inl (fun _ => 0))), ((u 2), .inl (K 0, 12, .inl (fun _ => 0))), ((u 3), .inl (K 0, 12, .inl (fun _ => 0))), ((u 4), .inl (K 0, 12, .inl (fun _ => 0))), ((u 5), .inl (K 0, 576, .inl (fun _ => 0))), ((u 6), .inl (K 0, 576, .inl (fun _ => 0))), ((u 7), .inl (K 0, 576, .inl (fun _ => 0))), ((u 8), .inl (K 0, 512, .inl (fun _ => 0)))] t) (va_A [(h0, .inr (11, [.int 0, .int 0, .null, .null, .null, .null, .null, .int 0, .null, .null, .null, .null]))] sz)) 9 2300 (va_A [(h0, .inr (11, [.int 0, .int 0, .null, .null, .null, .null, .null, .int 0, .null, .null, .null, .null]))] sz) := by
  refine cf_ofW (y := yLi_init) (As := [.ref h0]) (WS := [(h0, .inr (11, [.int 0, .int 0, .null, .null, .null, .null, .null, .int 0, .null, .null, .null, .null]))]) (maxL := 1) (fun A => (va_Qv (fun (u : Nat → Nat) => True) (fun (u : Nat → Nat) t => cf_At D A [(h0, .inr (11, [.int 0, .int 0, .ref (u 0), .ref (u 1), .ref (u 2), .ref (u 3), .ref (u 4), .int 0, .ref (u 5), .ref (u 6), .ref (u 7), .ref (u 8)])), ((u 0), .inl (K 1, 12, .inr (.inl (fun _ => 0)))), ((u 1), .inl (K 0, 12, .inl (fun _ => 0))), ((u 2), .inl (K 0, 12, .inl (fun _ => 0))), ((u 3), .inl (K 0, 12, .inl (fun _ => 0))), ((u 4), .inl (K 0, 12, .inl (fun _ => 0))), ((u 5), .inl (K 0, 576, .inl (fun _ => 0))), ((u 6), .inl (K 0, 576, .inl (fun _ => 0))), ((u 7), .inl (K 0, 576, .inl (fun _ => 0))), ((u 8), .inl (K 0, 512, .inl (fun _ => 0)))] t) A)) (by decide) (Nat.le_of_ble_eq_true rfl) ?_
  intro p e s m below meth c A ls En hsz hA hP hD hE hS hl
  obtain ⟨hx, hb, hr, hts, hown, hlocks, hin, hml⟩ := En
  have hK := hE.k
  have hl : lv_has ls 1 [(0, .ref h0)] := hl
  refine lv_aload_n hx hb dLi_init_0 rfl (lv_at hl 0 rfl) ?_
  refine W.objInit hx hb hown (hts _ wv_609) (hts _ wv_197) (hts _ wv_198) rfl (by rw [hml]; exact hl.1) rfl dLi_init_1 (Nat.le_of_ble_eq_true rfl) (Nat.le_of_ble_eq_true rfl) ?_
  refine W.eq (g2 := F0 m 4 ls []) rfl ?_
  refine lv_aload_n hx hb dLi_init_4 rfl (lv_at hl 0 rfl) ?_
  refine lv_bipush (v := 12) hx hb dLi_init_5 (by decide) ?_
  refine cf_newa (D := D) (ty := .long) (N' := 12) (a0 := (12, .inr (.inl (fun _ => 0)))) hx hb (hts _ wv_257) rfl (fun _ h => h) hK 1 rfl hP hD hS hA (fun _ => rfl) (by decide) (by decide) (by decide) (Nat.le_of_ble_eq_true rfl) (Nat.le_of_ble_eq_true rfl) dLi_init_7 (fun q_1 H hP hD hS => ?_)
  refine W.widen (k := 1) (n := 12) (Nat.le_of_ble_eq_true rfl) (Nat.le_of_ble_eq_true rfl) ?_
  refine va_putF (D := D) (ci := 11) (v := .ref q_1) (ty := (.array .long)) (C := RLi) (T := TLi) (N := 12) hx hb hts inLi tyLi tyokLi nmLi hown hK hP hD hS 0 rfl rfl 2 (by decide) (hts _ wv_614) (fun _ h9 => h9) rfl hin rfl (by decide +kernel) rfl rfl (Nat.le_of_ble_eq_true rfl) dLi_init_9 (fun H locs hP hD hS => ?_)
  have hP : va_P D vwCl [(h0, .inr (11, [.int 0, .int 0, .ref q_1, .null, .null, .null, .null, .int 0, .null, .null, .null, .null])), (q_1, .inl (K 1, 12, .inr (.inl (fun _ => 0))))] H := hP
  have hD : va_D A [(h0, .inr (11, [.int 0, .int 0, .ref q_1, .null, .null, .null, .null, .int 0, .null, .null, .null, .null])), (q_1, .inl (K 1, 12, .inr (.inl (fun _ => 0))))] := hD
  refine lv_aload_n hx hb dLi_init_12 rfl (lv_at hl 0 rfl) ?_
  refine lv_bipush (v := 12) hx hb dLi_init_13 (by decide) ?_
  refine cf_newa (D := D) (ty := .int) (N' := 12) (a0 := (12, .inl (fun _ => 0))) hx hb (hts _ wv_233) rfl (fun _ h => h) hK 0 rfl hP hD hS hA (fun _ => rfl) (by decide) (by decide) (by decide) (Nat.le_of_ble_eq_true rfl) (Nat.le_of_ble_eq_true rfl) dLi_init_15 (fun q_2 H hP hD hS => ?_)
  refine W.widen (k := 2) (n := 24) (Nat.le_of_ble_eq_true rfl) (Nat.le_of_ble_eq_true rfl) ?_
  refine va_putF (D := D) (ci := 11) (v := .ref q_2) (ty := (.array .int)) (C := RLi) (T := TLi) (N := 12) hx hb hts inLi tyLi tyokLi nmLi hown hK hP hD hS 0 rfl rfl 3 (by decide) (hts _ wv_616) (fun _ h9 => h9) rfl hin rfl (by decide +kernel) rfl rfl (Nat.le_of_ble_eq_true rfl) dLi_init_17 (fun H locs hP hD hS => ?_)
  have hP : va_P D vwCl [(h0, .inr (11, [.int 0, .int 0, .ref q_1, .ref q_2, .null, .null, .null, .int 0, .null, .null, .null, .null])), (q_1, .inl (K 1, 12, .inr (.inl (fun _ => 0)))), (q_2, .inl (K 0, 12, .inl (fun _ => 0)))] H := hP
  have hD : va_D A [(h0, .inr (11, [.int 0, .int 0, .ref q_1, .ref q_2, .null, .null, .null, .int 0, .null, .null, .null, .null])), (q_1, .inl (K 1, 12, .inr (.inl (fun _ => 0)))), (q_2, .inl (K 0, 12, .inl (fun _ => 0)))] := hD
  refine lv_aload_n hx hb dLi_init_20 rfl (lv_at hl 0 rfl) ?_
  refine lv_bipush (v := 12) hx hb dLi_init_21 (by decide) ?_
  refine cf_newa (D := D) (ty := .int) (N' := 12) (a0 := (12, .inl (fun _ => 0))) hx hb (hts _ wv_233) rfl (fun _ h => h) hK 0 rfl hP hD hS hA (fun _ => rfl) (by decide) (by decide) (by decide) (Nat.le_of_ble_eq_true rfl) (Nat.le_of_ble_eq_true rfl) dLi_init_23 (fun q_3 H hP hD hS => ?_)
  refine W.widen (k := 3) (n := 36) (Nat.le_of_ble_eq_true rfl) (Nat.le_of_ble_eq_true rfl) ?_
  refine va_putF (D := D) (ci := 11) (v := .ref q_3) (ty := (.array .int)) (C := RLi) (T := TLi) (N := 12) hx hb hts inLi tyLi tyokLi nmLi hown hK hP hD hS 0 rfl rfl 4 (by decide) (hts _ wv_619) (fun _ h9 => h9) rfl hin rfl (by decide +kernel) rfl rfl (Nat.le_of_ble_eq_true rfl) dLi_init_25 (fun H locs hP hD hS => ?_)
  have hP : va_P D vwCl [(h0, .inr (11, [.int 0, .int 0, .ref q_1, .ref q_2, .ref q_3, .null, .null, .int 0, .null, .null, .null, .null])), (q_1, .inl (K 1, 12, .inr (.inl (fun _ => 0)))), (q_2, .inl (K 0, 12, .inl (fun _ => 0))), (q_3, .inl (K 0, 12, .inl (fun _ => 0)))] H := hP
  have hD : va_D A [(h0, .inr (11, [.int 0, .int 0, .ref q_1, .ref q_2, .ref q_3, .null, .null, .int 0, .null, .null, .null, .null])), (q_1, .inl (K 1, 12, .inr (.inl (fun _ => 0)))), (q_2, .inl (K 0, 12, .inl (fun _ => 0))), (q_3, .inl (K 0, 12, .inl (fun _ => 0)))] := hD
  refine lv_aload_n hx hb dLi_init_28 rfl (lv_at hl 0 rfl) ?_
  refine lv_bipush (v := 12) hx hb dLi_init_29 (by decide) ?_
  refine cf_newa (D := D) (ty := .int) (N' := 12) (a0 := (12, .inl (fun _ => 0))) hx hb (hts _ wv_233) rfl (fun _ h => h) hK 0 rfl hP hD hS hA (fun _ => rfl) (by decide) (by decide) (by decide) (Nat.le_of_ble_eq_true rfl) (Nat.le_of_ble_eq_true rfl) dLi_init_31 (fun q_4 H hP hD hS => ?_)
  refine W.widen (k := 4) (n := 48) (Nat.le_of_ble_eq_true rfl) (Nat.le_of_ble_eq_true rfl) ?_
  refine va_putF (D := D) (ci := 11) (v := .ref q_4) (ty := (.array .int)) (C := RLi) (T := TLi) (N := 12) hx hb hts inLi tyLi tyokLi nmLi hown hK hP hD hS 0 rfl rfl 5 (by decide) (hts _ wv_622) (fun _ h9 => h9) rfl hin rfl (by decide +kernel) rfl rfl (Nat.le_of_ble_eq_true rfl) dLi_init_33 (fun H locs hP hD hS => ?_)
  have hP : va_P D vwCl [(h0, .inr (11, [.int 0, .int 0, .ref q_1, .ref q_2, .ref q_3, .ref q_4, .null, .int 0, .null, .null, .null, .null])), (q_1, .inl (K 1, 12, .inr (.inl (fun _ => 0)))), (q_2, .inl (K 0, 12, .inl (fun _ => 0))), (q_3, .inl (K 0, 12, .inl (fun _ => 0))), (q_4, .inl (K 0, 12, .inl (fun _ => 0)))] H := hP
  have hD : va_D A [(h0, .inr (11, [.int 0, .int 0, .ref q_1, .ref q_2, .ref q_3, .ref q_4, .null, .int 0, .null, .null, .null, .null])), (q_1, .inl (K 1, 12, .inr (.inl (fun _ => 0)))), (q_2, .inl (K 0, 12, .inl (fun _ => 0))), (q_3, .inl (K 0, 12, .inl (fun _ => 0))), (q_4, .inl (K 0, 12, .inl (fun _ => 0)))] := hD
  refine lv_aload_n hx hb dLi_init_36 rfl (lv_at hl 0 rfl) ?_
  refine lv_bipush (v := 12) hx hb dLi_init_37 (by decide) ?_
  refine cf_newa (D := D) (ty := .int) (N' := 12) (a0 := (12, .inl (fun _ => 0))) hx hb (hts _ wv_233) rfl (fun _ h => h) hK 0 rfl hP hD hS hA (fun _ => rfl) (by decide) (by decide) (by decide) (Nat.le_of_ble_eq_true rfl) (Nat.le_of_ble_eq_true rfl) dLi_init_39 (fun q_5 H hP hD hS => ?_)
  refine W.widen (k := 5) (n := 60) (Nat.le_of_ble_eq_true rfl) (Nat.le_of_ble_eq_true rfl) ?_
  refine va_putF (D := D) (ci := 11) (v := .ref q_5) (ty := (.array .int)) (C := RLi) (T := TLi) (N := 12) hx hb hts inLi tyLi tyokLi nmLi hown hK hP hD hS 0 rfl rfl 6 (by decide) (hts _ wv_625) (fun _ h9 => h9) rfl hin rfl (by decide +kernel) rfl rfl (Nat.le_of_ble_eq_true rfl) dLi_init_41 (fun H locs hP hD hS => ?_)
  have hP : va_P D vwCl [(h0, .inr (11, [.int 0, .int 0, .ref q_1, .ref q_2, .ref q_3, .ref q_4, .ref q_5, .int 0, .null, .null, .null, .null])), (q_1, .inl (K 1, 12, .inr (.inl (fun _ => 0)))), (q_2, .inl (K 0, 12, .inl (fun _ => 0))), (q_3, .inl (K 0, 12, .inl (fun _ => 0))), (q_4, .inl (K 0, 12, .inl (fun _ => 0))), (q_5, .inl (K 0, 12, .inl (fun _ => 0)))] H := hP
  have hD : va_D A [(h0, .inr (11, [.int 0, .int 0, .ref q_1, .ref q_2, .ref q_3, .ref q_4, .ref q_5, .int 0, .null, .null, .null, .null])), (q_1, .inl (K 1, 12, .inr (.inl (fun _ => 0)))), (q_2, .inl (K 0, 12, .inl (fun _ => 0))), (q_3, .inl (K 0, 12, .inl (fun _ => 0))), (q_4, .inl (K 0, 12, .inl (fun _ => 0))), (q_5, .inl (K 0, 12, .inl (fun _ => 0)))] := hD
  refine lv_aload_n hx hb dLi_init_44 rfl (lv_at hl 0 rfl) ?_
  refine lv_sipush (v := 576) hx hb dLi_init_45 (by decide) ?_
  refine cf_newa (D := D) (ty := .int) (N' := 576) (a0 := (576, .inl (fun _ => 0))) hx hb (hts _ wv_233) rfl (fun _ h => h) hK 0 rfl hP hD hS hA (fun _ => rfl) (by decide) (by decide) (by decide) (Nat.le_of_ble_eq_true rfl) (Nat.le_of_ble_eq_true rfl) dLi_init_48 (fun q_6 H hP hD hS => ?_)
  refine W.widen (k := 6) (n := 636) (Nat.le_of_ble_eq_true rfl) (Nat.le_of_ble_eq_true rfl) ?_
  refine va_putF (D := D) (ci := 11) (v := .ref q_6) (ty := (.array .int)) (C := RLi) (T := TLi) (N := 12) hx hb hts inLi tyLi tyokLi nmLi hown hK hP hD hS 0 rfl rfl 8 (by decide) (hts _ wv_628) (fun _ h9 => h9) rfl hin rfl (by decide +kernel) rfl rfl (Nat.le_of_ble_eq_true rfl) dLi_init_50 (fun H locs hP hD hS => ?_)
  have hP : va_P D vwCl [(h0, .inr (11, [.int 0, .int 0, .ref q_1, .ref q_2, .ref q_3, .ref q_4, .ref q_5, .int 0, .ref q_6, .null, .null, .null])), (q_1, .inl (K 1, 12, .inr (.inl (fun _ => 0)))), (q_2, .inl (K 0, 12, .inl (fun _ => 0))), (q_3, .inl (K 0, 12, .inl (fun _ => 0))), (q_4, .inl (K 0, 12, .inl (fun _ => 0))), (q_5, .inl (K 0, 12, .inl (fun _ => 0))), (q_6, .inl (K 0, 576, .inl (fun _ => 0)))] H := hP
  have hD : va_D A [(h0, .inr (11, [.int 0, .int 0, .ref q_1, .ref q_2, .ref q_3, .ref q_4, .ref q_5, .int 0, .ref q_6, .null, .null, .null])), (q_1, .inl (K 1, 12, .inr (.inl (fun _ => 0)))), (q_2, .inl (K 0, 12, .inl (fun _ => 0))), (q_3, .inl (K 0, 12, .inl (fun _ => 0))), (q_4, .inl (K 0, 12, .inl (fun _ => 0))), (q_5, .inl (K 0, 12, .inl (fun _ => 0))), (q_6, .inl (K 0, 576, .inl (fun _ => 0)))] := hD
  refine lv_aload_n hx hb dLi_init_53 rfl (lv_at hl 0 rfl) ?_
  refine lv_sipush (v := 576) hx hb dLi_init_54 (by decide) ?_
  refine cf_newa (D := D) (ty := .int) (N' := 576) (a0 := (576, .inl (fun _ => 0))) hx hb (hts _ wv_233) rfl (fun _ h => h) hK 0 rfl hP hD hS hA (fun _ => rfl) (by decide) (by decide) (by decide) (Nat.le_of_ble_eq_true rfl) (Nat.le_of_ble_eq_true rfl) dLi_init_57 (fun q_7 H hP hD hS => ?_)
  refine W.widen (k := 7) (n := 1212) (Nat.le_of_ble_eq_true rfl) (Nat.le_of_ble_eq_true rfl) ?_
  refine va_putF (D := D) (ci := 11) (v := .ref q_7) (ty := (.array .int)) (C := RLi) (T := TLi) (N := 12) hx hb hts inLi tyLi tyokLi nmLi hown hK hP hD hS 0 rfl rfl 9 (by decide) (hts _ wv_630) (fun _ h9 => h9) rfl hin rfl (by decide +kernel) rfl rfl (Nat.le_of_ble_eq_true rfl) dLi_init_59 (fun H locs hP hD hS => ?_)
  have hP : va_P D vwCl [(h0, .inr (11, [.int 0, .int 0, .ref q_1, .ref q_2, .ref q_3, .ref q_4, .ref q_5, .int 0, .ref q_6, .ref q_7, .null, .null])), (q_1, .inl (K 1, 12, .inr (.inl (fun _ => 0)))), (q_2, .inl (K 0, 12, .inl (fun _ => 0))), (q_3, .inl (K 0, 12, .inl (fun _ => 0))), (q_4, .inl (K 0, 12, .inl (fun _ => 0))), (q_5, .inl (K 0, 12, .inl (fun _ => 0))), (q_6, .inl (K 0, 576, .inl (fun _ => 0))), (q_7, .inl (K 0, 576, .inl (fun _ => 0)))] H := hP
  have hD : va_D A [(h0, .inr (11, [.int 0, .int 0, .ref q_1, .ref q_2, .ref q_3, .ref q_4, .ref q_5, .int 0, .ref q_6, .ref q_7, .null, .null])), (q_1, .inl (K 1, 12, .inr (.inl (fun _ => 0)))), (q_2, .inl (K 0, 12, .inl (fun _ => 0))), (q_3, .inl (K 0, 12, .inl (fun _ => 0))), (q_4, .inl (K 0, 12, .inl (fun _ => 0))), (q_5, .inl (K 0, 12, .inl (fun _ => 0))), (q_6, .inl (K 0, 576, .inl (fun _ => 0))), (q_7, .inl (K 0, 576, .inl (fun _ => 0)))] := hD
  refine lv_aload_n hx hb dLi_init_62 rfl (lv_at hl 0 rfl) ?_
  refine lv_sipush (v := 576) hx hb dLi_init_63 (by decide) ?_
  refine cf_newa (D := D) (ty := .int) (N' := 576) (a0 := (576, .inl (fun _ => 0))) hx hb (hts _ wv_233) rfl (fun _ h => h) hK 0 rfl hP hD hS hA (fun _ => rfl) (by decide) (by decide) (by decide) (Nat.le_of_ble_eq_true rfl) (Nat.le_of_ble_eq_true rfl) dLi_init_66 (fun q_8 H hP hD hS => ?_)
  refine W.widen (k := 8) (n := 1788) (Nat.le_of_ble_eq_true rfl) (Nat.le_of_ble_eq_true rfl) ?_
  refine va_putF (D := D) (ci := 11) (v := .ref q_8) (ty := (.array .int)) (C := RLi) (T := TLi) (N := 12) hx hb hts inLi tyLi tyokLi nmLi hown hK hP hD hS 0 rfl rfl 10 (by decide) (hts _ wv_632) (fun _ h9 => h9) rfl hin rfl (by decide +kernel) rfl rfl (Nat.le_of_ble_eq_true rfl) dLi_init_68 (fun H locs hP hD hS => ?_)
  have hP : va_P D vwCl [(h0, .inr (11, [.int 0, .int 0, .ref q_1, .ref q_2, .ref q_3, .ref q_4, .ref q_5, .int 0, .ref q_6, .ref q_7, .ref q_8, .null])), (q_1, .inl (K 1, 12, .inr (.inl (fun _ => 0)))), (q_2, .inl (K 0, 12, .inl (fun _ => 0))), (q_3, .inl (K 0, 12, .inl (fun _ => 0))), (q_4, .inl (K 0, 12, .inl (fun _ => 0))), (q_5, .inl (K 0, 12, .inl (fun _ => 0))), (q_6, .inl (K 0, 576, .inl (fun _ => 0))), (q_7, .inl (K 0, 576, .inl (fun _ => 0))), (q_8, .inl (K 0, 576, .inl (fun _ => 0)))] H := hP
  have hD : va_D A [(h0, .inr (11, [.int 0, .int 0, .ref q_1, .ref q_2, .ref q_3, .ref q_4, .ref q_5, .int 0, .ref q_6, .ref q_7, .ref q_8, .null])), (q_1, .inl (K 1, 12, .inr (.inl (fun _ => 0)))), (q_2, .inl (K 0, 12, .inl (fun _ => 0))), (q_3, .inl (K 0, 12, .inl (fun _ => 0))), (q_4, .inl (K 0, 12, .inl (fun _ => 0))), (q_5, .inl (K 0, 12, .inl (fun _ => 0))), (q_6, .inl (K 0, 576, .inl (fun _ => 0))), (q_7, .inl (K 0, 576, .inl (fun _ => 0))), (q_8, .inl (K 0, 576, .inl (fun _ => 0)))] := hD
  refine lv_aload_n hx hb dLi_init_71 rfl (lv_at hl 0 rfl) ?_
  refine lv_sipush (v := 512) hx hb dLi_init_72 (by decide) ?_
  refine cf_newa (D := D) (ty := .int) (N' := 512) (a0 := (512, .inl (fun _ => 0))) hx hb (hts _ wv_233) rfl (fun _ h => h) hK 0 rfl hP hD hS hA (fun _ => rfl) (by decide) (by decide) (by decide) (Nat.le_of_ble_eq_true rfl) (Nat.le_of_ble_eq_true rfl) dLi_init_75 (fun q_9 H hP hD hS => ?_)
  refine W.widen (k := 9) (n := 2300) (Nat.le_of_ble_eq_true rfl) (Nat.le_of_ble_eq_true rfl) ?_
  refine va_putF (D := D) (ci := 11) (v := .ref q_9) (ty := (.array .int)) (C := RLi) (T := TLi) (N := 12) hx hb hts inLi tyLi tyokLi nmLi hown hK hP hD hS 0 rfl rfl 11 (by decide) (hts _ wv_634) (fun _ h9 => h9) rfl hin rfl (by decide +kernel) rfl rfl (Nat.le_of_ble_eq_true rfl) dLi_init_77 (fun H locs hP hD hS => ?_)
  have hP : va_P D vwCl [(h0, .inr (11, [.int 0, .int 0, .ref q_1, .ref q_2, .ref q_3, .ref q_4, .ref q_5, .int 0, .ref q_6, .ref q_7, .ref q_8, .ref q_9])), (q_1, .inl (K 1, 12, .inr (.inl (fun _ => 0)))), (q_2, .inl (K 0, 12, .inl (fun _ => 0))), (q_3, .inl (K 0, 12, .inl (fun _ => 0))), (q_4, .inl (K 0, 12, .inl (fun _ => 0))), (q_5, .inl (K 0, 12, .inl (fun _ => 0))), (q_6, .inl (K 0, 576, .inl (fun _ => 0))), (q_7, .inl (K 0, 576, .inl (fun _ => 0))), (q_8, .inl (K 0, 576, .inl (fun _ => 0))), (q_9, .inl (K 0, 512, .inl (fun _ => 0)))] H := hP
  have hD : va_D A [(h0, .inr (11, [.int 0, .int 0, .ref q_1, .ref q_2, .ref q_3, .ref q_4, .ref q_5, .int 0, .ref q_6, .ref q_7, .ref q_8, .ref q_9])), (q_1, .inl (K 1, 12, .inr (.inl (fun _ => 0)))), (q_2, .inl (K 0, 12, .inl (fun _ => 0))), (q_3, .inl (K 0, 12, .inl (fun _ => 0))), (q_4, .inl (K 0, 12, .inl (fun _ => 0))), (q_5, .inl (K 0, 12, .inl (fun _ => 0))), (q_6, .inl (K 0, 576, .inl (fun _ => 0))), (q_7, .inl (K 0, 576, .inl (fun _ => 0))), (q_8, .inl (K 0, 576, .inl (fun _ => 0))), (q_9, .inl (K 0, 512, .inl (fun _ => 0)))] := hD
  exact cf_vret hx hb hr hlocks (fun k => ([q_1, q_2, q_3, q_4, q_5, q_6, q_7, q_8, q_9] : List Nat).getD k 0) trivial hP hD hS [0, 1, 2, 3, 4, 5, 6, 7, 8, 9] rfl (by decide +kernel) (Nat.le_of_ble_eq_true rfl) (Nat.le_of_ble_eq_true rfl) dLi_init_80

def yCo_full : MethodName := ⟨"CellForge$Cone", "full", "(I)I"⟩
abbrev cCo_full : ByteArray := prog_2_method_2_code
theorem dCo_full_0 : decode cCo_full 0 = .ok (.iload_n 0, 1) := by decide +kernel
theorem dCo_full_1 : decode cCo_full 1 = .ok (.iconst 5, 1) := by decide +kernel
theorem dCo_full_2 : decode cCo_full 2 = .ok (.if_icmp .ne 7, 3) := by decide +kernel
theorem dCo_full_5 : decode cCo_full 5 = .ok (.iconst (-1), 1) := by decide +kernel
theorem dCo_full_6 : decode cCo_full 6 = .ok (.goto 10, 3) := by decide +kernel
theorem dCo_full_9 : decode cCo_full 9 = .ok (.iconst 1, 1) := by decide +kernel
theorem dCo_full_10 : decode cCo_full 10 = .ok (.iconst 1, 1) := by decide +kernel
theorem dCo_full_11 : decode cCo_full 11 = .ok (.iload_n 0, 1) := by decide +kernel
theorem dCo_full_12 : decode cCo_full 12 = .ok (.ishl, 1) := by decide +kernel
theorem dCo_full_13 : decode cCo_full 13 = .ok (.ishl, 1) := by decide +kernel
theorem dCo_full_14 : decode cCo_full 14 = .ok (.iconst 1, 1) := by decide +kernel
theorem dCo_full_15 : decode cCo_full 15 = .ok (.isub, 1) := by decide +kernel
theorem dCo_full_16 : decode cCo_full 16 = .ok (.ireturn, 1) := by decide +kernel
def yCo_isBetween : MethodName := ⟨"CellForge$Cone", "isBetween", "(I)Z"⟩
abbrev cCo_isBetween : ByteArray := prog_2_method_3_code
theorem dCo_isBetween_0 : decode cCo_isBetween 0 = .ok (.aload_n 0, 1) := by decide +kernel
theorem dCo_isBetween_1 : decode cCo_isBetween 1 = .ok (.getfield 17, 3) := by decide +kernel
theorem dCo_isBetween_4 : decode cCo_isBetween 4 = .ok (.iload_n 1, 1) := by decide +kernel
theorem dCo_isBetween_5 : decode cCo_isBetween 5 = .ok (.iaload, 1) := by decide +kernel
theorem dCo_isBetween_6 : decode cCo_isBetween 6 = .ok (.iconst 1, 1) := by decide +kernel
theorem dCo_isBetween_7 : decode cCo_isBetween 7 = .ok (.if_icmp .ne 7, 3) := by decide +kernel
theorem dCo_isBetween_10 : decode cCo_isBetween 10 = .ok (.iconst 1, 1) := by decide +kernel
theorem dCo_isBetween_11 : decode cCo_isBetween 11 = .ok (.goto 4, 3) := by decide +kernel
theorem dCo_isBetween_14 : decode cCo_isBetween 14 = .ok (.iconst 0, 1) := by decide +kernel
theorem dCo_isBetween_15 : decode cCo_isBetween 15 = .ok (.ireturn, 1) := by decide +kernel
def yJArrays_fill_AII : MethodName := ⟨"java/util/Arrays", "fill", "([II)V"⟩
abbrev cJArrays_fill_AII : ByteArray := prog_34_method_103_code
theorem dJArrays_fill_AII_0 : decode cJArrays_fill_AII 0 = .ok (.iconst 0, 1) := by decide +kernel
theorem dJArrays_fill_AII_1 : decode cJArrays_fill_AII 1 = .ok (.istore_n 2, 1) := by decide +kernel
theorem dJArrays_fill_AII_2 : decode cJArrays_fill_AII 2 = .ok (.aload_n 0, 1) := by decide +kernel
theorem dJArrays_fill_AII_3 : decode cJArrays_fill_AII 3 = .ok (.arraylength, 1) := by decide +kernel
theorem dJArrays_fill_AII_4 : decode cJArrays_fill_AII 4 = .ok (.istore_n 3, 1) := by decide +kernel
theorem dJArrays_fill_AII_5 : decode cJArrays_fill_AII 5 = .ok (.iload_n 2, 1) := by decide +kernel
theorem dJArrays_fill_AII_6 : decode cJArrays_fill_AII 6 = .ok (.iload_n 3, 1) := by decide +kernel
theorem dJArrays_fill_AII_7 : decode cJArrays_fill_AII 7 = .ok (.if_icmp .ge 13, 3) := by decide +kernel
theorem dJArrays_fill_AII_10 : decode cJArrays_fill_AII 10 = .ok (.aload_n 0, 1) := by decide +kernel
theorem dJArrays_fill_AII_11 : decode cJArrays_fill_AII 11 = .ok (.iload_n 2, 1) := by decide +kernel
theorem dJArrays_fill_AII_12 : decode cJArrays_fill_AII 12 = .ok (.iload_n 1, 1) := by decide +kernel
theorem dJArrays_fill_AII_13 : decode cJArrays_fill_AII 13 = .ok (.iastore, 1) := by decide +kernel
theorem dJArrays_fill_AII_14 : decode cJArrays_fill_AII 14 = .ok (.iinc 2 1, 3) := by decide +kernel
theorem dJArrays_fill_AII_17 : decode cJArrays_fill_AII 17 = .ok (.goto (-12), 3) := by decide +kernel
theorem dJArrays_fill_AII_20 : decode cJArrays_fill_AII 20 = .ok (.return_, 1) := by decide +kernel
def yJInteger_numberOfLeadingZeros_I : MethodName := ⟨"java/lang/Integer", "numberOfLeadingZeros", "(I)I"⟩
abbrev cJInteger_numberOfLeadingZeros_I : ByteArray := prog_22_method_47_code
theorem dJInteger_numberOfLeadingZeros_I_0 : decode cJInteger_numberOfLeadingZeros_I 0 = .ok (.iload_n 0, 1) := by decide +kernel
theorem dJInteger_numberOfLeadingZeros_I_1 : decode cJInteger_numberOfLeadingZeros_I 1 = .ok (.ifCond .gt 14, 3) := by decide +kernel
theorem dJInteger_numberOfLeadingZeros_I_4 : decode cJInteger_numberOfLeadingZeros_I 4 = .ok (.iload_n 0, 1) := by decide +kernel
theorem dJInteger_numberOfLeadingZeros_I_5 : decode cJInteger_numberOfLeadingZeros_I 5 = .ok (.ifCond .ne 8, 3) := by decide +kernel
theorem dJInteger_numberOfLeadingZeros_I_8 : decode cJInteger_numberOfLeadingZeros_I 8 = .ok (.bipush 32, 2) := by decide +kernel
theorem dJInteger_numberOfLeadingZeros_I_10 : decode cJInteger_numberOfLeadingZeros_I 10 = .ok (.goto 4, 3) := by decide +kernel
theorem dJInteger_numberOfLeadingZeros_I_13 : decode cJInteger_numberOfLeadingZeros_I 13 = .ok (.iconst 0, 1) := by decide +kernel
theorem dJInteger_numberOfLeadingZeros_I_14 : decode cJInteger_numberOfLeadingZeros_I 14 = .ok (.ireturn, 1) := by decide +kernel
theorem dJInteger_numberOfLeadingZeros_I_15 : decode cJInteger_numberOfLeadingZeros_I 15 = .ok (.bipush 31, 2) := by decide +kernel
theorem dJInteger_numberOfLeadingZeros_I_17 : decode cJInteger_numberOfLeadingZeros_I 17 = .ok (.istore_n 1, 1) := by decide +kernel
theorem dJInteger_numberOfLeadingZeros_I_18 : decode cJInteger_numberOfLeadingZeros_I 18 = .ok (.iload_n 0, 1) := by decide +kernel
theorem dJInteger_numberOfLeadingZeros_I_19 : decode cJInteger_numberOfLeadingZeros_I 19 = .ok (.ldc_w 264, 3) := by decide +kernel
theorem dJInteger_numberOfLeadingZeros_I_22 : decode cJInteger_numberOfLeadingZeros_I 22 = .ok (.if_icmp .lt 11, 3) := by decide +kernel
theorem dJInteger_numberOfLeadingZeros_I_25 : decode cJInteger_numberOfLeadingZeros_I 25 = .ok (.iinc 1 (-16), 3) := by decide +kernel
theorem dJInteger_numberOfLeadingZeros_I_28 : decode cJInteger_numberOfLeadingZeros_I 28 = .ok (.iload_n 0, 1) := by decide +kernel
theorem dJInteger_numberOfLeadingZeros_I_29 : decode cJInteger_numberOfLeadingZeros_I 29 = .ok (.bipush 16, 2) := by decide +kernel
theorem dJInteger_numberOfLeadingZeros_I_31 : decode cJInteger_numberOfLeadingZeros_I 31 = .ok (.iushr, 1) := by decide +kernel
theorem dJInteger_numberOfLeadingZeros_I_32 : decode cJInteger_numberOfLeadingZeros_I 32 = .ok (.istore_n 0, 1) := by decide +kernel
theorem dJInteger_numberOfLeadingZeros_I_33 : decode cJInteger_numberOfLeadingZeros_I 33 = .ok (.iload_n 0, 1) := by decide +kernel
theorem dJInteger_numberOfLeadingZeros_I_34 : decode cJInteger_numberOfLeadingZeros_I 34 = .ok (.sipush 256, 3) := by decide +kernel
theorem dJInteger_numberOfLeadingZeros_I_37 : decode cJInteger_numberOfLeadingZeros_I 37 = .ok (.if_icmp .lt 11, 3) := by decide +kernel
theorem dJInteger_numberOfLeadingZeros_I_40 : decode cJInteger_numberOfLeadingZeros_I 40 = .ok (.iinc 1 (-8), 3) := by decide +kernel
theorem dJInteger_numberOfLeadingZeros_I_43 : decode cJInteger_numberOfLeadingZeros_I 43 = .ok (.iload_n 0, 1) := by decide +kernel
theorem dJInteger_numberOfLeadingZeros_I_44 : decode cJInteger_numberOfLeadingZeros_I 44 = .ok (.bipush 8, 2) := by decide +kernel
theorem dJInteger_numberOfLeadingZeros_I_46 : decode cJInteger_numberOfLeadingZeros_I 46 = .ok (.iushr, 1) := by decide +kernel
theorem dJInteger_numberOfLeadingZeros_I_47 : decode cJInteger_numberOfLeadingZeros_I 47 = .ok (.istore_n 0, 1) := by decide +kernel
theorem dJInteger_numberOfLeadingZeros_I_48 : decode cJInteger_numberOfLeadingZeros_I 48 = .ok (.iload_n 0, 1) := by decide +kernel
theorem dJInteger_numberOfLeadingZeros_I_49 : decode cJInteger_numberOfLeadingZeros_I 49 = .ok (.bipush 16, 2) := by decide +kernel
theorem dJInteger_numberOfLeadingZeros_I_51 : decode cJInteger_numberOfLeadingZeros_I 51 = .ok (.if_icmp .lt 10, 3) := by decide +kernel
theorem dJInteger_numberOfLeadingZeros_I_54 : decode cJInteger_numberOfLeadingZeros_I 54 = .ok (.iinc 1 (-4), 3) := by decide +kernel
theorem dJInteger_numberOfLeadingZeros_I_57 : decode cJInteger_numberOfLeadingZeros_I 57 = .ok (.iload_n 0, 1) := by decide +kernel
theorem dJInteger_numberOfLeadingZeros_I_58 : decode cJInteger_numberOfLeadingZeros_I 58 = .ok (.iconst 4, 1) := by decide +kernel
theorem dJInteger_numberOfLeadingZeros_I_59 : decode cJInteger_numberOfLeadingZeros_I 59 = .ok (.iushr, 1) := by decide +kernel
theorem dJInteger_numberOfLeadingZeros_I_60 : decode cJInteger_numberOfLeadingZeros_I 60 = .ok (.istore_n 0, 1) := by decide +kernel
theorem dJInteger_numberOfLeadingZeros_I_61 : decode cJInteger_numberOfLeadingZeros_I 61 = .ok (.iload_n 0, 1) := by decide +kernel
theorem dJInteger_numberOfLeadingZeros_I_62 : decode cJInteger_numberOfLeadingZeros_I 62 = .ok (.iconst 4, 1) := by decide +kernel
theorem dJInteger_numberOfLeadingZeros_I_63 : decode cJInteger_numberOfLeadingZeros_I 63 = .ok (.if_icmp .lt 10, 3) := by decide +kernel
theorem dJInteger_numberOfLeadingZeros_I_66 : decode cJInteger_numberOfLeadingZeros_I 66 = .ok (.iinc 1 (-2), 3) := by decide +kernel
theorem dJInteger_numberOfLeadingZeros_I_69 : decode cJInteger_numberOfLeadingZeros_I 69 = .ok (.iload_n 0, 1) := by decide +kernel
theorem dJInteger_numberOfLeadingZeros_I_70 : decode cJInteger_numberOfLeadingZeros_I 70 = .ok (.iconst 2, 1) := by decide +kernel
theorem dJInteger_numberOfLeadingZeros_I_71 : decode cJInteger_numberOfLeadingZeros_I 71 = .ok (.iushr, 1) := by decide +kernel
theorem dJInteger_numberOfLeadingZeros_I_72 : decode cJInteger_numberOfLeadingZeros_I 72 = .ok (.istore_n 0, 1) := by decide +kernel
theorem dJInteger_numberOfLeadingZeros_I_73 : decode cJInteger_numberOfLeadingZeros_I 73 = .ok (.iload_n 1, 1) := by decide +kernel
theorem dJInteger_numberOfLeadingZeros_I_74 : decode cJInteger_numberOfLeadingZeros_I 74 = .ok (.iload_n 0, 1) := by decide +kernel
theorem dJInteger_numberOfLeadingZeros_I_75 : decode cJInteger_numberOfLeadingZeros_I 75 = .ok (.iconst 1, 1) := by decide +kernel
theorem dJInteger_numberOfLeadingZeros_I_76 : decode cJInteger_numberOfLeadingZeros_I 76 = .ok (.iushr, 1) := by decide +kernel
theorem dJInteger_numberOfLeadingZeros_I_77 : decode cJInteger_numberOfLeadingZeros_I 77 = .ok (.isub, 1) := by decide +kernel
theorem dJInteger_numberOfLeadingZeros_I_78 : decode cJInteger_numberOfLeadingZeros_I 78 = .ok (.ireturn, 1) := by decide +kernel
theorem wv_1261 : Cond.constant "java/lang/Integer" 264 65536 ∈ cfB := cf_in 1261 (by decide +kernel) rfl
def yJLong_numberOfLeadingZeros_J : MethodName := ⟨"java/lang/Long", "numberOfLeadingZeros", "(J)I"⟩
abbrev cJLong_numberOfLeadingZeros_J : ByteArray := prog_23_method_48_code
theorem dJLong_numberOfLeadingZeros_J_0 : decode cJLong_numberOfLeadingZeros_J 0 = .ok (.lload_n 0, 1) := by decide +kernel
theorem dJLong_numberOfLeadingZeros_J_1 : decode cJLong_numberOfLeadingZeros_J 1 = .ok (.bipush 32, 2) := by decide +kernel
theorem dJLong_numberOfLeadingZeros_J_3 : decode cJLong_numberOfLeadingZeros_J 3 = .ok (.lushr, 1) := by decide +kernel
theorem dJLong_numberOfLeadingZeros_J_4 : decode cJLong_numberOfLeadingZeros_J 4 = .ok (.l2i, 1) := by decide +kernel
theorem dJLong_numberOfLeadingZeros_J_5 : decode cJLong_numberOfLeadingZeros_J 5 = .ok (.istore_n 2, 1) := by decide +kernel
theorem dJLong_numberOfLeadingZeros_J_6 : decode cJLong_numberOfLeadingZeros_J 6 = .ok (.iload_n 2, 1) := by decide +kernel
theorem dJLong_numberOfLeadingZeros_J_7 : decode cJLong_numberOfLeadingZeros_J 7 = .ok (.ifCond .ne 14, 3) := by decide +kernel
theorem dJLong_numberOfLeadingZeros_J_10 : decode cJLong_numberOfLeadingZeros_J 10 = .ok (.bipush 32, 2) := by decide +kernel
theorem dJLong_numberOfLeadingZeros_J_12 : decode cJLong_numberOfLeadingZeros_J 12 = .ok (.lload_n 0, 1) := by decide +kernel
theorem dJLong_numberOfLeadingZeros_J_13 : decode cJLong_numberOfLeadingZeros_J 13 = .ok (.l2i, 1) := by decide +kernel
theorem dJLong_numberOfLeadingZeros_J_14 : decode cJLong_numberOfLeadingZeros_J 14 = .ok (.invokestatic 308, 3) := by decide +kernel
theorem dJLong_numberOfLeadingZeros_J_17 : decode cJLong_numberOfLeadingZeros_J 17 = .ok (.iadd, 1) := by decide +kernel
theorem dJLong_numberOfLeadingZeros_J_18 : decode cJLong_numberOfLeadingZeros_J 18 = .ok (.goto 7, 3) := by decide +kernel
theorem dJLong_numberOfLeadingZeros_J_21 : decode cJLong_numberOfLeadingZeros_J 21 = .ok (.iload_n 2, 1) := by decide +kernel
theorem dJLong_numberOfLeadingZeros_J_22 : decode cJLong_numberOfLeadingZeros_J 22 = .ok (.invokestatic 308, 3) := by decide +kernel
theorem dJLong_numberOfLeadingZeros_J_25 : decode cJLong_numberOfLeadingZeros_J 25 = .ok (.ireturn, 1) := by decide +kernel
theorem wv_186 : Cond.initialized "java/lang/Integer" ∈ cfB := cf_in 186 (by decide +kernel) rfl
theorem wv_1364 : Cond.methodLink "java/lang/Long" 308 (⟨"java/lang/Integer", "numberOfLeadingZeros", "(I)I"⟩ : MethodName) ∈ cfB := cf_in 1364 (by decide +kernel) rfl
theorem wv_1366 : Cond.code (⟨"java/lang/Integer", "numberOfLeadingZeros", "(I)I"⟩ : MethodName) prog_22_method_47_code 2 (Option.some Jvm.ClassFile.FieldType.int) ∈ cfB := cf_in 1366 (by decide +kernel) rfl
theorem wv_1365 : Cond.static (⟨"java/lang/Integer", "numberOfLeadingZeros", "(I)I"⟩ : MethodName) ∈ cfB := cf_in 1365 (by decide +kernel) rfl
def yCu_sizeOf : MethodName := ⟨"CellForge$Cuts", "sizeOf", "(J)I"⟩
abbrev cCu_sizeOf : ByteArray := prog_4_method_2_code
theorem dCu_sizeOf_0 : decode cCu_sizeOf 0 = .ok (.bipush 8, 2) := by decide +kernel
theorem dCu_sizeOf_2 : decode cCu_sizeOf 2 = .ok (.lload_n 0, 1) := by decide +kernel
theorem dCu_sizeOf_3 : decode cCu_sizeOf 3 = .ok (.invokestatic 25, 3) := by decide +kernel
theorem dCu_sizeOf_6 : decode cCu_sizeOf 6 = .ok (.bipush 8, 2) := by decide +kernel
theorem dCu_sizeOf_8 : decode cCu_sizeOf 8 = .ok (.idiv, 1) := by decide +kernel
theorem dCu_sizeOf_9 : decode cCu_sizeOf 9 = .ok (.isub, 1) := by decide +kernel
theorem dCu_sizeOf_10 : decode cCu_sizeOf 10 = .ok (.ireturn, 1) := by decide +kernel
theorem wv_185 : Cond.initialized "java/lang/Long" ∈ cfB := cf_in 185 (by decide +kernel) rfl
theorem wv_1361 : Cond.methodLink "CellForge$Cuts" 25 (⟨"java/lang/Long", "numberOfLeadingZeros", "(J)I"⟩ : MethodName) ∈ cfB := cf_in 1361 (by decide +kernel) rfl
theorem wv_1363 : Cond.code (⟨"java/lang/Long", "numberOfLeadingZeros", "(J)I"⟩ : MethodName) prog_23_method_48_code 3 (Option.some Jvm.ClassFile.FieldType.int) ∈ cfB := cf_in 1363 (by decide +kernel) rfl
theorem wv_1362 : Cond.static (⟨"java/lang/Long", "numberOfLeadingZeros", "(J)I"⟩ : MethodName) ∈ cfB := cf_in 1362 (by decide +kernel) rfl
def yCo_takeCut : MethodName := ⟨"CellForge$Cone", "takeCut", "(J)V"⟩
abbrev cCo_takeCut : ByteArray := prog_2_method_5_code
theorem dCo_takeCut_0 : decode cCo_takeCut 0 = .ok (.aload_n 0, 1) := by decide +kernel
theorem dCo_takeCut_1 : decode cCo_takeCut 1 = .ok (.getfield 17, 3) := by decide +kernel
theorem dCo_takeCut_4 : decode cCo_takeCut 4 = .ok (.iconst 0, 1) := by decide +kernel
theorem dCo_takeCut_5 : decode cCo_takeCut 5 = .ok (.invokestatic 53, 3) := by decide +kernel
theorem dCo_takeCut_8 : decode cCo_takeCut 8 = .ok (.aload_n 0, 1) := by decide +kernel
theorem dCo_takeCut_9 : decode cCo_takeCut 9 = .ok (.lload_n 1, 1) := by decide +kernel
theorem dCo_takeCut_10 : decode cCo_takeCut 10 = .ok (.invokestatic 59, 3) := by decide +kernel
theorem dCo_takeCut_13 : decode cCo_takeCut 13 = .ok (.putfield 43, 3) := by decide +kernel
theorem dCo_takeCut_16 : decode cCo_takeCut 16 = .ok (.iconst 0, 1) := by decide +kernel
theorem dCo_takeCut_17 : decode cCo_takeCut 17 = .ok (.istore_n 3, 1) := by decide +kernel
theorem dCo_takeCut_18 : decode cCo_takeCut 18 = .ok (.iload_n 3, 1) := by decide +kernel
theorem dCo_takeCut_19 : decode cCo_takeCut 19 = .ok (.aload_n 0, 1) := by decide +kernel
theorem dCo_takeCut_20 : decode cCo_takeCut 20 = .ok (.getfield 43, 3) := by decide +kernel
theorem dCo_takeCut_23 : decode cCo_takeCut 23 = .ok (.if_icmp .ge 57, 3) := by decide +kernel
theorem dCo_takeCut_26 : decode cCo_takeCut 26 = .ok (.lload_n 1, 1) := by decide +kernel
theorem dCo_takeCut_27 : decode cCo_takeCut 27 = .ok (.bipush 8, 2) := by decide +kernel
theorem dCo_takeCut_29 : decode cCo_takeCut 29 = .ok (.aload_n 0, 1) := by decide +kernel
theorem dCo_takeCut_30 : decode cCo_takeCut 30 = .ok (.getfield 43, 3) := by decide +kernel
theorem dCo_takeCut_33 : decode cCo_takeCut 33 = .ok (.iconst 1, 1) := by decide +kernel
theorem dCo_takeCut_34 : decode cCo_takeCut 34 = .ok (.isub, 1) := by decide +kernel
theorem dCo_takeCut_35 : decode cCo_takeCut 35 = .ok (.iload_n 3, 1) := by decide +kernel
theorem dCo_takeCut_36 : decode cCo_takeCut 36 = .ok (.isub, 1) := by decide +kernel
theorem dCo_takeCut_37 : decode cCo_takeCut 37 = .ok (.imul, 1) := by decide +kernel
theorem dCo_takeCut_38 : decode cCo_takeCut 38 = .ok (.lushr, 1) := by decide +kernel
theorem dCo_takeCut_39 : decode cCo_takeCut 39 = .ok (.ldc2_w 63, 3) := by decide +kernel
theorem dCo_takeCut_42 : decode cCo_takeCut 42 = .ok (.land, 1) := by decide +kernel
theorem dCo_takeCut_43 : decode cCo_takeCut 43 = .ok (.l2i, 1) := by decide +kernel
theorem dCo_takeCut_44 : decode cCo_takeCut 44 = .ok (.istore 4, 2) := by decide +kernel
theorem dCo_takeCut_46 : decode cCo_takeCut 46 = .ok (.aload_n 0, 1) := by decide +kernel
theorem dCo_takeCut_47 : decode cCo_takeCut 47 = .ok (.getfield 11, 3) := by decide +kernel
theorem dCo_takeCut_50 : decode cCo_takeCut 50 = .ok (.iload_n 3, 1) := by decide +kernel
theorem dCo_takeCut_51 : decode cCo_takeCut 51 = .ok (.iload 4, 2) := by decide +kernel
theorem dCo_takeCut_53 : decode cCo_takeCut 53 = .ok (.iastore, 1) := by decide +kernel
theorem dCo_takeCut_54 : decode cCo_takeCut 54 = .ok (.aload_n 0, 1) := by decide +kernel
theorem dCo_takeCut_55 : decode cCo_takeCut 55 = .ok (.getfield 17, 3) := by decide +kernel
theorem dCo_takeCut_58 : decode cCo_takeCut 58 = .ok (.iload 4, 2) := by decide +kernel
theorem dCo_takeCut_60 : decode cCo_takeCut 60 = .ok (.iconst 2, 1) := by decide +kernel
theorem dCo_takeCut_61 : decode cCo_takeCut 61 = .ok (.iastore, 1) := by decide +kernel
theorem dCo_takeCut_62 : decode cCo_takeCut 62 = .ok (.aload_n 0, 1) := by decide +kernel
theorem dCo_takeCut_63 : decode cCo_takeCut 63 = .ok (.getfield 20, 3) := by decide +kernel
theorem dCo_takeCut_66 : decode cCo_takeCut 66 = .ok (.iload 4, 2) := by decide +kernel
theorem dCo_takeCut_68 : decode cCo_takeCut 68 = .ok (.getstatic 65, 3) := by decide +kernel
theorem dCo_takeCut_71 : decode cCo_takeCut 71 = .ok (.iload_n 3, 1) := by decide +kernel
theorem dCo_takeCut_72 : decode cCo_takeCut 72 = .ok (.iaload, 1) := by decide +kernel
theorem dCo_takeCut_73 : decode cCo_takeCut 73 = .ok (.iastore, 1) := by decide +kernel
theorem dCo_takeCut_74 : decode cCo_takeCut 74 = .ok (.iinc 3 1, 3) := by decide +kernel
theorem dCo_takeCut_77 : decode cCo_takeCut 77 = .ok (.goto (-59), 3) := by decide +kernel
theorem dCo_takeCut_80 : decode cCo_takeCut 80 = .ok (.return_, 1) := by decide +kernel
theorem wv_292 : Cond.fieldLink "CellForge$Cone" 43 "CellForge$Cone" "size" "I" ∈ cfB := cf_in 292 (by decide +kernel) rfl
theorem wv_1367 : Cond.constantLong "CellForge$Cone" 63 255 ∈ cfB := cf_in 1367 (by decide +kernel) rfl
theorem wv_1368 : Cond.fieldLink "CellForge$Cone" 65 "CellForge$Cone" "PATTERNS" "[I" ∈ cfB := cf_in 1368 (by decide +kernel) rfl
theorem wv_181 : Cond.initialized "java/util/Arrays" ∈ cfB := cf_in 181 (by decide +kernel) rfl
theorem wv_1357 : Cond.methodLink "CellForge$Cone" 53 (⟨"java/util/Arrays", "fill", "([II)V"⟩ : MethodName) ∈ cfB := cf_in 1357 (by decide +kernel) rfl
theorem wv_842 : Cond.code (⟨"java/util/Arrays", "fill", "([II)V"⟩ : MethodName) prog_34_method_103_code 4 (Option.none : Option Jvm.ClassFile.FieldType) ∈ cfB := cf_in 842 (by decide +kernel) rfl
theorem wv_841 : Cond.static (⟨"java/util/Arrays", "fill", "([II)V"⟩ : MethodName) ∈ cfB := cf_in 841 (by decide +kernel) rfl
theorem wv_1358 : Cond.methodLink "CellForge$Cone" 59 (⟨"CellForge$Cuts", "sizeOf", "(J)I"⟩ : MethodName) ∈ cfB := cf_in 1358 (by decide +kernel) rfl
theorem wv_1360 : Cond.code (⟨"CellForge$Cuts", "sizeOf", "(J)I"⟩ : MethodName) prog_4_method_2_code 2 (Option.some Jvm.ClassFile.FieldType.int) ∈ cfB := cf_in 1360 (by decide +kernel) rfl
theorem wv_1359 : Cond.static (⟨"CellForge$Cuts", "sizeOf", "(J)I"⟩ : MethodName) ∈ cfB := cf_in 1359 (by decide +kernel) rfl
def yCo_reach : MethodName := ⟨"CellForge$Cone", "reach", "(I)V"⟩
abbrev cCo_reach : ByteArray := prog_2_method_6_code
theorem dCo_reach_0 : decode cCo_reach 0 = .ok (.aload_n 0, 1) := by decide +kernel
theorem dCo_reach_1 : decode cCo_reach 1 = .ok (.getfield 17, 3) := by decide +kernel
theorem dCo_reach_4 : decode cCo_reach 4 = .ok (.iload_n 1, 1) := by decide +kernel
theorem dCo_reach_5 : decode cCo_reach 5 = .ok (.iaload, 1) := by decide +kernel
theorem dCo_reach_6 : decode cCo_reach 6 = .ok (.ifCond .ne 10, 3) := by decide +kernel
theorem dCo_reach_9 : decode cCo_reach 9 = .ok (.aload_n 0, 1) := by decide +kernel
theorem dCo_reach_10 : decode cCo_reach 10 = .ok (.getfield 17, 3) := by decide +kernel
theorem dCo_reach_13 : decode cCo_reach 13 = .ok (.iload_n 1, 1) := by decide +kernel
theorem dCo_reach_14 : decode cCo_reach 14 = .ok (.iconst 1, 1) := by decide +kernel
theorem dCo_reach_15 : decode cCo_reach 15 = .ok (.iastore, 1) := by decide +kernel
theorem dCo_reach_16 : decode cCo_reach 16 = .ok (.return_, 1) := by decide +kernel
def yCo_valueOf : MethodName := ⟨"CellForge$Cone", "valueOf", "(I)I"⟩
abbrev cCo_valueOf : ByteArray := prog_2_method_7_code
theorem dCo_valueOf_0 : decode cCo_valueOf 0 = .ok (.aload_n 0, 1) := by decide +kernel
theorem dCo_valueOf_1 : decode cCo_valueOf 1 = .ok (.getfield 20, 3) := by decide +kernel
theorem dCo_valueOf_4 : decode cCo_valueOf 4 = .ok (.iload_n 1, 1) := by decide +kernel
theorem dCo_valueOf_5 : decode cCo_valueOf 5 = .ok (.iconst 1, 1) := by decide +kernel
theorem dCo_valueOf_6 : decode cCo_valueOf 6 = .ok (.ishr, 1) := by decide +kernel
theorem dCo_valueOf_7 : decode cCo_valueOf 7 = .ok (.iaload, 1) := by decide +kernel
theorem dCo_valueOf_8 : decode cCo_valueOf 8 = .ok (.iload_n 1, 1) := by decide +kernel
theorem dCo_valueOf_9 : decode cCo_valueOf 9 = .ok (.iconst 1, 1) := by decide +kernel
theorem dCo_valueOf_10 : decode cCo_valueOf 10 = .ok (.iand, 1) := by decide +kernel
theorem dCo_valueOf_11 : decode cCo_valueOf 11 = .ok (.ineg, 1) := by decide +kernel
theorem dCo_valueOf_12 : decode cCo_valueOf 12 = .ok (.ixor, 1) := by decide +kernel
theorem dCo_valueOf_13 : decode cCo_valueOf 13 = .ok (.ireturn, 1) := by decide +kernel
def yCo_find : MethodName := ⟨"CellForge$Cone", "find", "(LCellForge$Graph;IJ)V"⟩
abbrev cCo_find : ByteArray := prog_2_method_4_code
theorem dCo_find_0 : decode cCo_find 0 = .ok (.aload_n 0, 1) := by decide +kernel
theorem dCo_find_1 : decode cCo_find 1 = .ok (.lload_n 3, 1) := by decide +kernel
theorem dCo_find_2 : decode cCo_find 2 = .ok (.invokevirtual 23, 3) := by decide +kernel
theorem dCo_find_5 : decode cCo_find 5 = .ok (.aload_n 0, 1) := by decide +kernel
theorem dCo_find_6 : decode cCo_find 6 = .ok (.getfield 17, 3) := by decide +kernel
theorem dCo_find_9 : decode cCo_find 9 = .ok (.iload_n 2, 1) := by decide +kernel
theorem dCo_find_10 : decode cCo_find 10 = .ok (.iconst 1, 1) := by decide +kernel
theorem dCo_find_11 : decode cCo_find 11 = .ok (.iastore, 1) := by decide +kernel
theorem dCo_find_12 : decode cCo_find 12 = .ok (.iload_n 2, 1) := by decide +kernel
theorem dCo_find_13 : decode cCo_find 13 = .ok (.istore 5, 2) := by decide +kernel
theorem dCo_find_15 : decode cCo_find 15 = .ok (.iload 5, 2) := by decide +kernel
theorem dCo_find_17 : decode cCo_find 17 = .ok (.aload_n 0, 1) := by decide +kernel
theorem dCo_find_18 : decode cCo_find 18 = .ok (.getfield 11, 3) := by decide +kernel
theorem dCo_find_21 : decode cCo_find 21 = .ok (.iconst 0, 1) := by decide +kernel
theorem dCo_find_22 : decode cCo_find 22 = .ok (.iaload, 1) := by decide +kernel
theorem dCo_find_23 : decode cCo_find 23 = .ok (.if_icmp .le 46, 3) := by decide +kernel
theorem dCo_find_26 : decode cCo_find 26 = .ok (.aload_n 0, 1) := by decide +kernel
theorem dCo_find_27 : decode cCo_find 27 = .ok (.getfield 17, 3) := by decide +kernel
theorem dCo_find_30 : decode cCo_find 30 = .ok (.iload 5, 2) := by decide +kernel
theorem dCo_find_32 : decode cCo_find 32 = .ok (.iaload, 1) := by decide +kernel
theorem dCo_find_33 : decode cCo_find 33 = .ok (.iconst 1, 1) := by decide +kernel
theorem dCo_find_34 : decode cCo_find 34 = .ok (.if_icmp .ne 29, 3) := by decide +kernel
theorem dCo_find_37 : decode cCo_find 37 = .ok (.aload_n 0, 1) := by decide +kernel
theorem dCo_find_38 : decode cCo_find 38 = .ok (.aload_n 1, 1) := by decide +kernel
theorem dCo_find_39 : decode cCo_find 39 = .ok (.getfield 27, 3) := by decide +kernel
theorem dCo_find_42 : decode cCo_find 42 = .ok (.iload 5, 2) := by decide +kernel
theorem dCo_find_44 : decode cCo_find 44 = .ok (.iaload, 1) := by decide +kernel
theorem dCo_find_45 : decode cCo_find 45 = .ok (.iconst 1, 1) := by decide +kernel
theorem dCo_find_46 : decode cCo_find 46 = .ok (.ishr, 1) := by decide +kernel
theorem dCo_find_47 : decode cCo_find 47 = .ok (.invokevirtual 32, 3) := by decide +kernel
theorem dCo_find_50 : decode cCo_find 50 = .ok (.aload_n 0, 1) := by decide +kernel
theorem dCo_find_51 : decode cCo_find 51 = .ok (.aload_n 1, 1) := by decide +kernel
theorem dCo_find_52 : decode cCo_find 52 = .ok (.getfield 36, 3) := by decide +kernel
theorem dCo_find_55 : decode cCo_find 55 = .ok (.iload 5, 2) := by decide +kernel
theorem dCo_find_57 : decode cCo_find 57 = .ok (.iaload, 1) := by decide +kernel
theorem dCo_find_58 : decode cCo_find 58 = .ok (.iconst 1, 1) := by decide +kernel
theorem dCo_find_59 : decode cCo_find 59 = .ok (.ishr, 1) := by decide +kernel
theorem dCo_find_60 : decode cCo_find 60 = .ok (.invokevirtual 32, 3) := by decide +kernel
theorem dCo_find_63 : decode cCo_find 63 = .ok (.iinc 5 (-1), 3) := by decide +kernel
theorem dCo_find_66 : decode cCo_find 66 = .ok (.goto (-51), 3) := by decide +kernel
theorem dCo_find_69 : decode cCo_find 69 = .ok (.aload_n 0, 1) := by decide +kernel
theorem dCo_find_70 : decode cCo_find 70 = .ok (.getfield 11, 3) := by decide +kernel
theorem dCo_find_73 : decode cCo_find 73 = .ok (.iconst 0, 1) := by decide +kernel
theorem dCo_find_74 : decode cCo_find 74 = .ok (.iaload, 1) := by decide +kernel
theorem dCo_find_75 : decode cCo_find 75 = .ok (.iconst 1, 1) := by decide +kernel
theorem dCo_find_76 : decode cCo_find 76 = .ok (.iadd, 1) := by decide +kernel
theorem dCo_find_77 : decode cCo_find 77 = .ok (.istore 5, 2) := by decide +kernel
theorem dCo_find_79 : decode cCo_find 79 = .ok (.iload 5, 2) := by decide +kernel
theorem dCo_find_81 : decode cCo_find 81 = .ok (.iload_n 2, 1) := by decide +kernel
theorem dCo_find_82 : decode cCo_find 82 = .ok (.if_icmp .gt 50, 3) := by decide +kernel
theorem dCo_find_85 : decode cCo_find 85 = .ok (.aload_n 0, 1) := by decide +kernel
theorem dCo_find_86 : decode cCo_find 86 = .ok (.getfield 17, 3) := by decide +kernel
theorem dCo_find_89 : decode cCo_find 89 = .ok (.iload 5, 2) := by decide +kernel
theorem dCo_find_91 : decode cCo_find 91 = .ok (.iaload, 1) := by decide +kernel
theorem dCo_find_92 : decode cCo_find 92 = .ok (.iconst 1, 1) := by decide +kernel
theorem dCo_find_93 : decode cCo_find 93 = .ok (.if_icmp .ne 33, 3) := by decide +kernel
theorem dCo_find_96 : decode cCo_find 96 = .ok (.aload_n 0, 1) := by decide +kernel
theorem dCo_find_97 : decode cCo_find 97 = .ok (.getfield 20, 3) := by decide +kernel
theorem dCo_find_100 : decode cCo_find 100 = .ok (.iload 5, 2) := by decide +kernel
theorem dCo_find_102 : decode cCo_find 102 = .ok (.aload_n 0, 1) := by decide +kernel
theorem dCo_find_103 : decode cCo_find 103 = .ok (.aload_n 1, 1) := by decide +kernel
theorem dCo_find_104 : decode cCo_find 104 = .ok (.getfield 27, 3) := by decide +kernel
theorem dCo_find_107 : decode cCo_find 107 = .ok (.iload 5, 2) := by decide +kernel
theorem dCo_find_109 : decode cCo_find 109 = .ok (.iaload, 1) := by decide +kernel
theorem dCo_find_110 : decode cCo_find 110 = .ok (.invokevirtual 39, 3) := by decide +kernel
theorem dCo_find_113 : decode cCo_find 113 = .ok (.aload_n 0, 1) := by decide +kernel
theorem dCo_find_114 : decode cCo_find 114 = .ok (.aload_n 1, 1) := by decide +kernel
theorem dCo_find_115 : decode cCo_find 115 = .ok (.getfield 36, 3) := by decide +kernel
theorem dCo_find_118 : decode cCo_find 118 = .ok (.iload 5, 2) := by decide +kernel
theorem dCo_find_120 : decode cCo_find 120 = .ok (.iaload, 1) := by decide +kernel
theorem dCo_find_121 : decode cCo_find 121 = .ok (.invokevirtual 39, 3) := by decide +kernel
theorem dCo_find_124 : decode cCo_find 124 = .ok (.iand, 1) := by decide +kernel
theorem dCo_find_125 : decode cCo_find 125 = .ok (.iastore, 1) := by decide +kernel
theorem dCo_find_126 : decode cCo_find 126 = .ok (.iinc 5 1, 3) := by decide +kernel
theorem dCo_find_129 : decode cCo_find 129 = .ok (.goto (-50), 3) := by decide +kernel
theorem dCo_find_132 : decode cCo_find 132 = .ok (.aload_n 0, 1) := by decide +kernel
theorem dCo_find_133 : decode cCo_find 133 = .ok (.aload_n 0, 1) := by decide +kernel
theorem dCo_find_134 : decode cCo_find 134 = .ok (.getfield 20, 3) := by decide +kernel
theorem dCo_find_137 : decode cCo_find 137 = .ok (.iload_n 2, 1) := by decide +kernel
theorem dCo_find_138 : decode cCo_find 138 = .ok (.iaload, 1) := by decide +kernel
theorem dCo_find_139 : decode cCo_find 139 = .ok (.aload_n 0, 1) := by decide +kernel
theorem dCo_find_140 : decode cCo_find 140 = .ok (.getfield 43, 3) := by decide +kernel
theorem dCo_find_143 : decode cCo_find 143 = .ok (.invokestatic 47, 3) := by decide +kernel
theorem dCo_find_146 : decode cCo_find 146 = .ok (.iand, 1) := by decide +kernel
theorem dCo_find_147 : decode cCo_find 147 = .ok (.putfield 50, 3) := by decide +kernel
theorem dCo_find_150 : decode cCo_find 150 = .ok (.return_, 1) := by decide +kernel
theorem wv_1377 : Cond.methodLink "CellForge$Cone" 47 (⟨"CellForge$Cone", "full", "(I)I"⟩ : MethodName) ∈ cfB := cf_in 1377 (by decide +kernel) rfl
theorem wv_1379 : Cond.code (⟨"CellForge$Cone", "full", "(I)I"⟩ : MethodName) prog_2_method_2_code 1 (Option.some Jvm.ClassFile.FieldType.int) ∈ cfB := cf_in 1379 (by decide +kernel) rfl
theorem wv_1378 : Cond.static (⟨"CellForge$Cone", "full", "(I)I"⟩ : MethodName) ∈ cfB := cf_in 1378 (by decide +kernel) rfl
theorem wv_296 : Cond.fieldLink "CellForge$Cone" 50 "CellForge$Cone" "table" "I" ∈ cfB := cf_in 296 (by decide +kernel) rfl
theorem wv_562 : Cond.fieldLink "CellForge$Cone" 27 "CellForge$Graph" "low" "[I" ∈ cfB := cf_in 562 (by decide +kernel) rfl
theorem wv_1373 : Cond.methodLink "CellForge$Cone" 39 (⟨"CellForge$Cone", "valueOf", "(I)I"⟩ : MethodName) ∈ cfB := cf_in 1373 (by decide +kernel) rfl
theorem wv_1376 : Cond.code (⟨"CellForge$Cone", "valueOf", "(I)I"⟩ : MethodName) prog_2_method_7_code 2 (Option.some Jvm.ClassFile.FieldType.int) ∈ cfB := cf_in 1376 (by decide +kernel) rfl
theorem wv_1375 : Cond.instanceMethod (⟨"CellForge$Cone", "valueOf", "(I)I"⟩ : MethodName) ∈ cfB := cf_in 1375 (by decide +kernel) rfl
theorem wv_43 : Cond.selects "CellForge$Cone" (⟨"CellForge$Cone", "valueOf", "(I)I"⟩ : MethodName) (⟨"CellForge$Cone", "valueOf", "(I)I"⟩ : MethodName) ∈ cfB := cf_in 43 (by decide +kernel) rfl
theorem wv_568 : Cond.fieldLink "CellForge$Cone" 36 "CellForge$Graph" "high" "[I" ∈ cfB := cf_in 568 (by decide +kernel) rfl
theorem wv_1369 : Cond.methodLink "CellForge$Cone" 32 (⟨"CellForge$Cone", "reach", "(I)V"⟩ : MethodName) ∈ cfB := cf_in 1369 (by decide +kernel) rfl
theorem wv_1372 : Cond.code (⟨"CellForge$Cone", "reach", "(I)V"⟩ : MethodName) prog_2_method_6_code 2 (Option.none : Option Jvm.ClassFile.FieldType) ∈ cfB := cf_in 1372 (by decide +kernel) rfl
theorem wv_1371 : Cond.instanceMethod (⟨"CellForge$Cone", "reach", "(I)V"⟩ : MethodName) ∈ cfB := cf_in 1371 (by decide +kernel) rfl
theorem wv_42 : Cond.selects "CellForge$Cone" (⟨"CellForge$Cone", "reach", "(I)V"⟩ : MethodName) (⟨"CellForge$Cone", "reach", "(I)V"⟩ : MethodName) ∈ cfB := cf_in 42 (by decide +kernel) rfl
theorem wv_1353 : Cond.methodLink "CellForge$Cone" 23 (⟨"CellForge$Cone", "takeCut", "(J)V"⟩ : MethodName) ∈ cfB := cf_in 1353 (by decide +kernel) rfl
theorem wv_1356 : Cond.code (⟨"CellForge$Cone", "takeCut", "(J)V"⟩ : MethodName) prog_2_method_5_code 5 (Option.none : Option Jvm.ClassFile.FieldType) ∈ cfB := cf_in 1356 (by decide +kernel) rfl
theorem wv_1355 : Cond.instanceMethod (⟨"CellForge$Cone", "takeCut", "(J)V"⟩ : MethodName) ∈ cfB := cf_in 1355 (by decide +kernel) rfl
theorem wv_41 : Cond.selects "CellForge$Cone" (⟨"CellForge$Cone", "takeCut", "(J)V"⟩ : MethodName) (⟨"CellForge$Cone", "takeCut", "(J)V"⟩ : MethodName) ∈ cfB := cf_in 41 (by decide +kernel) rfl
def yCv_cutOf : MethodName := ⟨"CellForge$Cover", "cutOf", "(I)J"⟩
abbrev cCv_cutOf : ByteArray := prog_3_method_2_code
theorem dCv_cutOf_0 : decode cCv_cutOf 0 = .ok (.aload_n 0, 1) := by decide +kernel
theorem dCv_cutOf_1 : decode cCv_cutOf 1 = .ok (.getfield 21, 3) := by decide +kernel
theorem dCv_cutOf_4 : decode cCv_cutOf 4 = .ok (.aload_n 0, 1) := by decide +kernel
theorem dCv_cutOf_5 : decode cCv_cutOf 5 = .ok (.getfield 9, 3) := by decide +kernel
theorem dCv_cutOf_8 : decode cCv_cutOf 8 = .ok (.iload_n 1, 1) := by decide +kernel
theorem dCv_cutOf_9 : decode cCv_cutOf 9 = .ok (.iaload, 1) := by decide +kernel
theorem dCv_cutOf_10 : decode cCv_cutOf 10 = .ok (.laload, 1) := by decide +kernel
theorem dCv_cutOf_11 : decode cCv_cutOf 11 = .ok (.lreturn, 1) := by decide +kernel
def yGr_size : MethodName := ⟨"CellForge$Graph", "size", "()I"⟩
abbrev cGr_size : ByteArray := prog_6_method_3_code
theorem dGr_size_0 : decode cGr_size 0 = .ok (.iconst 1, 1) := by decide +kernel
theorem dGr_size_1 : decode cGr_size 1 = .ok (.aload_n 0, 1) := by decide +kernel
theorem dGr_size_2 : decode cGr_size 2 = .ok (.getfield 30, 3) := by decide +kernel
theorem dGr_size_5 : decode cGr_size 5 = .ok (.iadd, 1) := by decide +kernel
theorem dGr_size_6 : decode cGr_size 6 = .ok (.aload_n 0, 1) := by decide +kernel
theorem dGr_size_7 : decode cGr_size 7 = .ok (.getfield 37, 3) := by decide +kernel
theorem dGr_size_10 : decode cGr_size 10 = .ok (.iadd, 1) := by decide +kernel
theorem dGr_size_11 : decode cGr_size 11 = .ok (.ireturn, 1) := by decide +kernel
theorem wv_546 : Cond.fieldLink "CellForge$Graph" 30 "CellForge$Graph" "inputs" "I" ∈ cfB := cf_in 546 (by decide +kernel) rfl
theorem wv_556 : Cond.fieldLink "CellForge$Graph" 37 "CellForge$Graph" "gates" "I" ∈ cfB := cf_in 556 (by decide +kernel) rfl
def yGr_isGate : MethodName := ⟨"CellForge$Graph", "isGate", "(I)Z"⟩
abbrev cGr_isGate : ByteArray := prog_6_method_4_code
theorem dGr_isGate_0 : decode cGr_isGate 0 = .ok (.iload_n 1, 1) := by decide +kernel
theorem dGr_isGate_1 : decode cGr_isGate 1 = .ok (.aload_n 0, 1) := by decide +kernel
theorem dGr_isGate_2 : decode cGr_isGate 2 = .ok (.getfield 30, 3) := by decide +kernel
theorem dGr_isGate_5 : decode cGr_isGate 5 = .ok (.if_icmp .le 15, 3) := by decide +kernel
theorem dGr_isGate_8 : decode cGr_isGate 8 = .ok (.iload_n 1, 1) := by decide +kernel
theorem dGr_isGate_9 : decode cGr_isGate 9 = .ok (.aload_n 0, 1) := by decide +kernel
theorem dGr_isGate_10 : decode cGr_isGate 10 = .ok (.invokevirtual 50, 3) := by decide +kernel
theorem dGr_isGate_13 : decode cGr_isGate 13 = .ok (.if_icmp .ge 7, 3) := by decide +kernel
theorem dGr_isGate_16 : decode cGr_isGate 16 = .ok (.iconst 1, 1) := by decide +kernel
theorem dGr_isGate_17 : decode cGr_isGate 17 = .ok (.goto 4, 3) := by decide +kernel
theorem dGr_isGate_20 : decode cGr_isGate 20 = .ok (.iconst 0, 1) := by decide +kernel
theorem dGr_isGate_21 : decode cGr_isGate 21 = .ok (.ireturn, 1) := by decide +kernel
theorem wv_1072 : Cond.methodLink "CellForge$Graph" 50 (⟨"CellForge$Graph", "size", "()I"⟩ : MethodName) ∈ cfB := cf_in 1072 (by decide +kernel) rfl
theorem wv_1075 : Cond.code (⟨"CellForge$Graph", "size", "()I"⟩ : MethodName) prog_6_method_3_code 1 (Option.some Jvm.ClassFile.FieldType.int) ∈ cfB := cf_in 1075 (by decide +kernel) rfl
theorem wv_1073 : Cond.instanceMethod (⟨"CellForge$Graph", "size", "()I"⟩ : MethodName) ∈ cfB := cf_in 1073 (by decide +kernel) rfl
theorem wv_1074 : Cond.selects "CellForge$Graph" (⟨"CellForge$Graph", "size", "()I"⟩ : MethodName) (⟨"CellForge$Graph", "size", "()I"⟩ : MethodName) ∈ cfB := cf_in 1074 (by decide +kernel) rfl
def yCv_wantOutputs : MethodName := ⟨"CellForge$Cover", "wantOutputs", "(LCellForge$Graph;LCellForge$Cuts;)V"⟩
abbrev cCv_wantOutputs : ByteArray := prog_3_method_4_code
theorem dCv_wantOutputs_0 : decode cCv_wantOutputs 0 = .ok (.aload_n 0, 1) := by decide +kernel
theorem dCv_wantOutputs_1 : decode cCv_wantOutputs 1 = .ok (.getfield 25, 3) := by decide +kernel
theorem dCv_wantOutputs_4 : decode cCv_wantOutputs 4 = .ok (.iconst (-1), 1) := by decide +kernel
theorem dCv_wantOutputs_5 : decode cCv_wantOutputs 5 = .ok (.invokestatic 70, 3) := by decide +kernel
theorem dCv_wantOutputs_8 : decode cCv_wantOutputs 8 = .ok (.aload_n 0, 1) := by decide +kernel
theorem dCv_wantOutputs_9 : decode cCv_wantOutputs 9 = .ok (.iconst 0, 1) := by decide +kernel
theorem dCv_wantOutputs_10 : decode cCv_wantOutputs 10 = .ok (.putfield 76, 3) := by decide +kernel
theorem dCv_wantOutputs_13 : decode cCv_wantOutputs 13 = .ok (.iconst 0, 1) := by decide +kernel
theorem dCv_wantOutputs_14 : decode cCv_wantOutputs 14 = .ok (.istore_n 3, 1) := by decide +kernel
theorem dCv_wantOutputs_15 : decode cCv_wantOutputs 15 = .ok (.iload_n 3, 1) := by decide +kernel
theorem dCv_wantOutputs_16 : decode cCv_wantOutputs 16 = .ok (.aload_n 1, 1) := by decide +kernel
theorem dCv_wantOutputs_17 : decode cCv_wantOutputs 17 = .ok (.getfield 79, 3) := by decide +kernel
theorem dCv_wantOutputs_20 : decode cCv_wantOutputs 20 = .ok (.if_icmp .ge 33, 3) := by decide +kernel
theorem dCv_wantOutputs_23 : decode cCv_wantOutputs 23 = .ok (.aload_n 0, 1) := by decide +kernel
theorem dCv_wantOutputs_24 : decode cCv_wantOutputs 24 = .ok (.aload_n 0, 1) := by decide +kernel
theorem dCv_wantOutputs_25 : decode cCv_wantOutputs 25 = .ok (.getfield 76, 3) := by decide +kernel
theorem dCv_wantOutputs_28 : decode cCv_wantOutputs 28 = .ok (.aload_n 2, 1) := by decide +kernel
theorem dCv_wantOutputs_29 : decode cCv_wantOutputs 29 = .ok (.getfield 67, 3) := by decide +kernel
theorem dCv_wantOutputs_32 : decode cCv_wantOutputs 32 = .ok (.aload_n 1, 1) := by decide +kernel
theorem dCv_wantOutputs_33 : decode cCv_wantOutputs 33 = .ok (.getfield 82, 3) := by decide +kernel
theorem dCv_wantOutputs_36 : decode cCv_wantOutputs 36 = .ok (.iload_n 3, 1) := by decide +kernel
theorem dCv_wantOutputs_37 : decode cCv_wantOutputs 37 = .ok (.iaload, 1) := by decide +kernel
theorem dCv_wantOutputs_38 : decode cCv_wantOutputs 38 = .ok (.iconst 1, 1) := by decide +kernel
theorem dCv_wantOutputs_39 : decode cCv_wantOutputs 39 = .ok (.ishr, 1) := by decide +kernel
theorem dCv_wantOutputs_40 : decode cCv_wantOutputs 40 = .ok (.iaload, 1) := by decide +kernel
theorem dCv_wantOutputs_41 : decode cCv_wantOutputs 41 = .ok (.invokestatic 85, 3) := by decide +kernel
theorem dCv_wantOutputs_44 : decode cCv_wantOutputs 44 = .ok (.putfield 76, 3) := by decide +kernel
theorem dCv_wantOutputs_47 : decode cCv_wantOutputs 47 = .ok (.iinc 3 1, 3) := by decide +kernel
theorem dCv_wantOutputs_50 : decode cCv_wantOutputs 50 = .ok (.goto (-35), 3) := by decide +kernel
theorem dCv_wantOutputs_53 : decode cCv_wantOutputs 53 = .ok (.iconst 0, 1) := by decide +kernel
theorem dCv_wantOutputs_54 : decode cCv_wantOutputs 54 = .ok (.istore_n 3, 1) := by decide +kernel
theorem dCv_wantOutputs_55 : decode cCv_wantOutputs 55 = .ok (.iload_n 3, 1) := by decide +kernel
theorem dCv_wantOutputs_56 : decode cCv_wantOutputs 56 = .ok (.aload_n 1, 1) := by decide +kernel
theorem dCv_wantOutputs_57 : decode cCv_wantOutputs 57 = .ok (.getfield 79, 3) := by decide +kernel
theorem dCv_wantOutputs_60 : decode cCv_wantOutputs 60 = .ok (.if_icmp .ge 39, 3) := by decide +kernel
theorem dCv_wantOutputs_63 : decode cCv_wantOutputs 63 = .ok (.aload_n 1, 1) := by decide +kernel
theorem dCv_wantOutputs_64 : decode cCv_wantOutputs 64 = .ok (.getfield 82, 3) := by decide +kernel
theorem dCv_wantOutputs_67 : decode cCv_wantOutputs 67 = .ok (.iload_n 3, 1) := by decide +kernel
theorem dCv_wantOutputs_68 : decode cCv_wantOutputs 68 = .ok (.iaload, 1) := by decide +kernel
theorem dCv_wantOutputs_69 : decode cCv_wantOutputs 69 = .ok (.iconst 1, 1) := by decide +kernel
theorem dCv_wantOutputs_70 : decode cCv_wantOutputs 70 = .ok (.ishr, 1) := by decide +kernel
theorem dCv_wantOutputs_71 : decode cCv_wantOutputs 71 = .ok (.istore 4, 2) := by decide +kernel
theorem dCv_wantOutputs_73 : decode cCv_wantOutputs 73 = .ok (.aload_n 1, 1) := by decide +kernel
theorem dCv_wantOutputs_74 : decode cCv_wantOutputs 74 = .ok (.iload 4, 2) := by decide +kernel
theorem dCv_wantOutputs_76 : decode cCv_wantOutputs 76 = .ok (.invokevirtual 91, 3) := by decide +kernel
theorem dCv_wantOutputs_79 : decode cCv_wantOutputs 79 = .ok (.ifCond .eq 14, 3) := by decide +kernel
theorem dCv_wantOutputs_82 : decode cCv_wantOutputs 82 = .ok (.aload_n 0, 1) := by decide +kernel
theorem dCv_wantOutputs_83 : decode cCv_wantOutputs 83 = .ok (.getfield 25, 3) := by decide +kernel
theorem dCv_wantOutputs_86 : decode cCv_wantOutputs 86 = .ok (.iload 4, 2) := by decide +kernel
theorem dCv_wantOutputs_88 : decode cCv_wantOutputs 88 = .ok (.aload_n 0, 1) := by decide +kernel
theorem dCv_wantOutputs_89 : decode cCv_wantOutputs 89 = .ok (.getfield 76, 3) := by decide +kernel
theorem dCv_wantOutputs_92 : decode cCv_wantOutputs 92 = .ok (.iastore, 1) := by decide +kernel
theorem dCv_wantOutputs_93 : decode cCv_wantOutputs 93 = .ok (.iinc 3 1, 3) := by decide +kernel
theorem dCv_wantOutputs_96 : decode cCv_wantOutputs 96 = .ok (.goto (-41), 3) := by decide +kernel
theorem dCv_wantOutputs_99 : decode cCv_wantOutputs 99 = .ok (.return_, 1) := by decide +kernel
theorem wv_552 : Cond.fieldLink "CellForge$Cover" 79 "CellForge$Graph" "outputs" "I" ∈ cfB := cf_in 552 (by decide +kernel) rfl
theorem wv_576 : Cond.fieldLink "CellForge$Cover" 82 "CellForge$Graph" "results" "[I" ∈ cfB := cf_in 576 (by decide +kernel) rfl
theorem wv_1466 : Cond.methodLink "CellForge$Cover" 91 (⟨"CellForge$Graph", "isGate", "(I)Z"⟩ : MethodName) ∈ cfB := cf_in 1466 (by decide +kernel) rfl
theorem wv_1130 : Cond.code (⟨"CellForge$Graph", "isGate", "(I)Z"⟩ : MethodName) prog_6_method_4_code 2 (Option.some Jvm.ClassFile.FieldType.boolean) ∈ cfB := cf_in 1130 (by decide +kernel) rfl
theorem wv_1128 : Cond.instanceMethod (⟨"CellForge$Graph", "isGate", "(I)Z"⟩ : MethodName) ∈ cfB := cf_in 1128 (by decide +kernel) rfl
theorem wv_1129 : Cond.selects "CellForge$Graph" (⟨"CellForge$Graph", "isGate", "(I)Z"⟩ : MethodName) (⟨"CellForge$Graph", "isGate", "(I)Z"⟩ : MethodName) ∈ cfB := cf_in 1129 (by decide +kernel) rfl
theorem wv_371 : Cond.fieldLink "CellForge$Cover" 76 "CellForge$Cover" "greatest" "I" ∈ cfB := cf_in 371 (by decide +kernel) rfl
theorem wv_267 : Cond.fieldLink "CellForge$Cover" 67 "CellForge$Cuts" "depth" "[I" ∈ cfB := cf_in 267 (by decide +kernel) rfl
theorem wv_1465 : Cond.methodLink "CellForge$Cover" 85 (⟨"java/lang/Math", "max", "(II)I"⟩ : MethodName) ∈ cfB := cf_in 1465 (by decide +kernel) rfl
theorem wv_1062 : Cond.static (⟨"java/lang/Math", "max", "(II)I"⟩ : MethodName) ∈ cfB := cf_in 1062 (by decide +kernel) rfl
theorem wv_1063 : Cond.code (⟨"java/lang/Math", "max", "(II)I"⟩ : MethodName) prog_24_method_65_code 2 (Option.some Jvm.ClassFile.FieldType.int) ∈ cfB := cf_in 1063 (by decide +kernel) rfl
theorem wv_1464 : Cond.methodLink "CellForge$Cover" 70 (⟨"java/util/Arrays", "fill", "([II)V"⟩ : MethodName) ∈ cfB := cf_in 1464 (by decide +kernel) rfl
def yCu_firstOf : MethodName := ⟨"CellForge$Cuts", "firstOf", "(I)I"⟩
abbrev cCu_firstOf : ByteArray := prog_4_method_4_code
theorem dCu_firstOf_0 : decode cCu_firstOf 0 = .ok (.aload_n 0, 1) := by decide +kernel
theorem dCu_firstOf_1 : decode cCu_firstOf 1 = .ok (.getfield 15, 3) := by decide +kernel
theorem dCu_firstOf_4 : decode cCu_firstOf 4 = .ok (.iload_n 1, 1) := by decide +kernel
theorem dCu_firstOf_5 : decode cCu_firstOf 5 = .ok (.iaload, 1) := by decide +kernel
theorem dCu_firstOf_6 : decode cCu_firstOf 6 = .ok (.iconst 1, 1) := by decide +kernel
theorem dCu_firstOf_7 : decode cCu_firstOf 7 = .ok (.iadd, 1) := by decide +kernel
theorem dCu_firstOf_8 : decode cCu_firstOf 8 = .ok (.ireturn, 1) := by decide +kernel
def yCu_behindLastOf : MethodName := ⟨"CellForge$Cuts", "behindLastOf", "(I)I"⟩
abbrev cCu_behindLastOf : ByteArray := prog_4_method_5_code
theorem dCu_behindLastOf_0 : decode cCu_behindLastOf 0 = .ok (.aload_n 0, 1) := by decide +kernel
theorem dCu_behindLastOf_1 : decode cCu_behindLastOf 1 = .ok (.getfield 15, 3) := by decide +kernel
theorem dCu_behindLastOf_4 : decode cCu_behindLastOf 4 = .ok (.iload_n 1, 1) := by decide +kernel
theorem dCu_behindLastOf_5 : decode cCu_behindLastOf 5 = .ok (.iconst 1, 1) := by decide +kernel
theorem dCu_behindLastOf_6 : decode cCu_behindLastOf 6 = .ok (.iadd, 1) := by decide +kernel
theorem dCu_behindLastOf_7 : decode cCu_behindLastOf 7 = .ok (.iaload, 1) := by decide +kernel
theorem dCu_behindLastOf_8 : decode cCu_behindLastOf 8 = .ok (.ireturn, 1) := by decide +kernel
def yCu_cutAt : MethodName := ⟨"CellForge$Cuts", "cutAt", "(I)J"⟩
abbrev cCu_cutAt : ByteArray := prog_4_method_6_code
theorem dCu_cutAt_0 : decode cCu_cutAt 0 = .ok (.aload_n 0, 1) := by decide +kernel
theorem dCu_cutAt_1 : decode cCu_cutAt 1 = .ok (.getfield 18, 3) := by decide +kernel
theorem dCu_cutAt_4 : decode cCu_cutAt 4 = .ok (.iload_n 1, 1) := by decide +kernel
theorem dCu_cutAt_5 : decode cCu_cutAt 5 = .ok (.laload, 1) := by decide +kernel
theorem dCu_cutAt_6 : decode cCu_cutAt 6 = .ok (.lreturn, 1) := by decide +kernel
def yCu_depthOf : MethodName := ⟨"CellForge$Cuts", "depthOf", "(J)I"⟩
abbrev cCu_depthOf : ByteArray := prog_4_method_14_code
theorem dCu_depthOf_0 : decode cCu_depthOf 0 = .ok (.iconst 0, 1) := by decide +kernel
theorem dCu_depthOf_1 : decode cCu_depthOf 1 = .ok (.istore_n 3, 1) := by decide +kernel
theorem dCu_depthOf_2 : decode cCu_depthOf 2 = .ok (.lload_n 1, 1) := by decide +kernel
theorem dCu_depthOf_3 : decode cCu_depthOf 3 = .ok (.lstore 4, 2) := by decide +kernel
theorem dCu_depthOf_5 : decode cCu_depthOf 5 = .ok (.lload 4, 2) := by decide +kernel
theorem dCu_depthOf_7 : decode cCu_depthOf 7 = .ok (.lconst 0, 1) := by decide +kernel
theorem dCu_depthOf_8 : decode cCu_depthOf 8 = .ok (.lcmp, 1) := by decide +kernel
theorem dCu_depthOf_9 : decode cCu_depthOf 9 = .ok (.ifCond .eq 30, 3) := by decide +kernel
theorem dCu_depthOf_12 : decode cCu_depthOf 12 = .ok (.iload_n 3, 1) := by decide +kernel
theorem dCu_depthOf_13 : decode cCu_depthOf 13 = .ok (.aload_n 0, 1) := by decide +kernel
theorem dCu_depthOf_14 : decode cCu_depthOf 14 = .ok (.getfield 9, 3) := by decide +kernel
theorem dCu_depthOf_17 : decode cCu_depthOf 17 = .ok (.lload 4, 2) := by decide +kernel
theorem dCu_depthOf_19 : decode cCu_depthOf 19 = .ok (.ldc2_w 34, 3) := by decide +kernel
theorem dCu_depthOf_22 : decode cCu_depthOf 22 = .ok (.land, 1) := by decide +kernel
theorem dCu_depthOf_23 : decode cCu_depthOf 23 = .ok (.l2i, 1) := by decide +kernel
theorem dCu_depthOf_24 : decode cCu_depthOf 24 = .ok (.iaload, 1) := by decide +kernel
theorem dCu_depthOf_25 : decode cCu_depthOf 25 = .ok (.invokestatic 107, 3) := by decide +kernel
theorem dCu_depthOf_28 : decode cCu_depthOf 28 = .ok (.istore_n 3, 1) := by decide +kernel
theorem dCu_depthOf_29 : decode cCu_depthOf 29 = .ok (.lload 4, 2) := by decide +kernel
theorem dCu_depthOf_31 : decode cCu_depthOf 31 = .ok (.bipush 8, 2) := by decide +kernel
theorem dCu_depthOf_33 : decode cCu_depthOf 33 = .ok (.lushr, 1) := by decide +kernel
theorem dCu_depthOf_34 : decode cCu_depthOf 34 = .ok (.lstore 4, 2) := by decide +kernel
theorem dCu_depthOf_36 : decode cCu_depthOf 36 = .ok (.goto (-31), 3) := by decide +kernel
theorem dCu_depthOf_39 : decode cCu_depthOf 39 = .ok (.iload_n 3, 1) := by decide +kernel
theorem dCu_depthOf_40 : decode cCu_depthOf 40 = .ok (.iconst 1, 1) := by decide +kernel
theorem dCu_depthOf_41 : decode cCu_depthOf 41 = .ok (.iadd, 1) := by decide +kernel
theorem dCu_depthOf_42 : decode cCu_depthOf 42 = .ok (.ireturn, 1) := by decide +kernel
theorem wv_1314 : Cond.constantLong "CellForge$Cuts" 34 255 ∈ cfB := cf_in 1314 (by decide +kernel) rfl
theorem wv_1330 : Cond.methodLink "CellForge$Cuts" 107 (⟨"java/lang/Math", "max", "(II)I"⟩ : MethodName) ∈ cfB := cf_in 1330 (by decide +kernel) rfl
def yCv_unwantedIn : MethodName := ⟨"CellForge$Cover", "unwantedIn", "(LCellForge$Graph;J)I"⟩
abbrev cCv_unwantedIn : ByteArray := prog_3_method_7_code
theorem dCv_unwantedIn_0 : decode cCv_unwantedIn 0 = .ok (.iconst 0, 1) := by decide +kernel
theorem dCv_unwantedIn_1 : decode cCv_unwantedIn 1 = .ok (.istore 4, 2) := by decide +kernel
theorem dCv_unwantedIn_3 : decode cCv_unwantedIn 3 = .ok (.lload_n 2, 1) := by decide +kernel
theorem dCv_unwantedIn_4 : decode cCv_unwantedIn 4 = .ok (.lstore 5, 2) := by decide +kernel
theorem dCv_unwantedIn_6 : decode cCv_unwantedIn 6 = .ok (.lload 5, 2) := by decide +kernel
theorem dCv_unwantedIn_8 : decode cCv_unwantedIn 8 = .ok (.lconst 0, 1) := by decide +kernel
theorem dCv_unwantedIn_9 : decode cCv_unwantedIn 9 = .ok (.lcmp, 1) := by decide +kernel
theorem dCv_unwantedIn_10 : decode cCv_unwantedIn 10 = .ok (.ifCond .eq 52, 3) := by decide +kernel
theorem dCv_unwantedIn_13 : decode cCv_unwantedIn 13 = .ok (.lload 5, 2) := by decide +kernel
theorem dCv_unwantedIn_15 : decode cCv_unwantedIn 15 = .ok (.ldc2_w 127, 3) := by decide +kernel
theorem dCv_unwantedIn_18 : decode cCv_unwantedIn 18 = .ok (.land, 1) := by decide +kernel
theorem dCv_unwantedIn_19 : decode cCv_unwantedIn 19 = .ok (.l2i, 1) := by decide +kernel
theorem dCv_unwantedIn_20 : decode cCv_unwantedIn 20 = .ok (.istore 7, 2) := by decide +kernel
theorem dCv_unwantedIn_22 : decode cCv_unwantedIn 22 = .ok (.iload 4, 2) := by decide +kernel
theorem dCv_unwantedIn_24 : decode cCv_unwantedIn 24 = .ok (.aload_n 1, 1) := by decide +kernel
theorem dCv_unwantedIn_25 : decode cCv_unwantedIn 25 = .ok (.iload 7, 2) := by decide +kernel
theorem dCv_unwantedIn_27 : decode cCv_unwantedIn 27 = .ok (.invokevirtual 91, 3) := by decide +kernel
theorem dCv_unwantedIn_30 : decode cCv_unwantedIn 30 = .ok (.ifCond .eq 18, 3) := by decide +kernel
theorem dCv_unwantedIn_33 : decode cCv_unwantedIn 33 = .ok (.aload_n 0, 1) := by decide +kernel
theorem dCv_unwantedIn_34 : decode cCv_unwantedIn 34 = .ok (.getfield 25, 3) := by decide +kernel
theorem dCv_unwantedIn_37 : decode cCv_unwantedIn 37 = .ok (.iload 7, 2) := by decide +kernel
theorem dCv_unwantedIn_39 : decode cCv_unwantedIn 39 = .ok (.iaload, 1) := by decide +kernel
theorem dCv_unwantedIn_40 : decode cCv_unwantedIn 40 = .ok (.iconst (-1), 1) := by decide +kernel
theorem dCv_unwantedIn_41 : decode cCv_unwantedIn 41 = .ok (.if_icmp .ne 7, 3) := by decide +kernel
theorem dCv_unwantedIn_44 : decode cCv_unwantedIn 44 = .ok (.iconst 1, 1) := by decide +kernel
theorem dCv_unwantedIn_45 : decode cCv_unwantedIn 45 = .ok (.goto 4, 3) := by decide +kernel
theorem dCv_unwantedIn_48 : decode cCv_unwantedIn 48 = .ok (.iconst 0, 1) := by decide +kernel
theorem dCv_unwantedIn_49 : decode cCv_unwantedIn 49 = .ok (.iadd, 1) := by decide +kernel
theorem dCv_unwantedIn_50 : decode cCv_unwantedIn 50 = .ok (.istore 4, 2) := by decide +kernel
theorem dCv_unwantedIn_52 : decode cCv_unwantedIn 52 = .ok (.lload 5, 2) := by decide +kernel
theorem dCv_unwantedIn_54 : decode cCv_unwantedIn 54 = .ok (.bipush 8, 2) := by decide +kernel
theorem dCv_unwantedIn_56 : decode cCv_unwantedIn 56 = .ok (.lushr, 1) := by decide +kernel
theorem dCv_unwantedIn_57 : decode cCv_unwantedIn 57 = .ok (.lstore 5, 2) := by decide +kernel
theorem dCv_unwantedIn_59 : decode cCv_unwantedIn 59 = .ok (.goto (-53), 3) := by decide +kernel
theorem dCv_unwantedIn_62 : decode cCv_unwantedIn 62 = .ok (.iload 4, 2) := by decide +kernel
theorem dCv_unwantedIn_64 : decode cCv_unwantedIn 64 = .ok (.ireturn, 1) := by decide +kernel
theorem wv_1484 : Cond.constantLong "CellForge$Cover" 127 255 ∈ cfB := cf_in 1484 (by decide +kernel) rfl
def yCv_fewest : MethodName := ⟨"CellForge$Cover", "fewest", "(LCellForge$Graph;LCellForge$Cuts;I)J"⟩
abbrev cCv_fewest : ByteArray := prog_3_method_6_code
theorem dCv_fewest_0 : decode cCv_fewest 0 = .ok (.ldc2_w 108, 3) := by decide +kernel
theorem dCv_fewest_3 : decode cCv_fewest 3 = .ok (.lstore 4, 2) := by decide +kernel
theorem dCv_fewest_5 : decode cCv_fewest 5 = .ok (.sipush 209, 3) := by decide +kernel
theorem dCv_fewest_8 : decode cCv_fewest 8 = .ok (.istore 6, 2) := by decide +kernel
theorem dCv_fewest_10 : decode cCv_fewest 10 = .ok (.aload_n 2, 1) := by decide +kernel
theorem dCv_fewest_11 : decode cCv_fewest 11 = .ok (.iload_n 3, 1) := by decide +kernel
theorem dCv_fewest_12 : decode cCv_fewest 12 = .ok (.invokevirtual 110, 3) := by decide +kernel
theorem dCv_fewest_15 : decode cCv_fewest 15 = .ok (.istore 7, 2) := by decide +kernel
theorem dCv_fewest_17 : decode cCv_fewest 17 = .ok (.iload 7, 2) := by decide +kernel
theorem dCv_fewest_19 : decode cCv_fewest 19 = .ok (.aload_n 2, 1) := by decide +kernel
theorem dCv_fewest_20 : decode cCv_fewest 20 = .ok (.iload_n 3, 1) := by decide +kernel
theorem dCv_fewest_21 : decode cCv_fewest 21 = .ok (.invokevirtual 114, 3) := by decide +kernel
theorem dCv_fewest_24 : decode cCv_fewest 24 = .ok (.if_icmp .ge 74, 3) := by decide +kernel
theorem dCv_fewest_27 : decode cCv_fewest 27 = .ok (.aload_n 2, 1) := by decide +kernel
theorem dCv_fewest_28 : decode cCv_fewest 28 = .ok (.iload 7, 2) := by decide +kernel
theorem dCv_fewest_30 : decode cCv_fewest 30 = .ok (.invokevirtual 117, 3) := by decide +kernel
theorem dCv_fewest_33 : decode cCv_fewest 33 = .ok (.lstore 8, 2) := by decide +kernel
theorem dCv_fewest_35 : decode cCv_fewest 35 = .ok (.aload_n 2, 1) := by decide +kernel
theorem dCv_fewest_36 : decode cCv_fewest 36 = .ok (.lload 8, 2) := by decide +kernel
theorem dCv_fewest_38 : decode cCv_fewest 38 = .ok (.invokevirtual 120, 3) := by decide +kernel
theorem dCv_fewest_41 : decode cCv_fewest 41 = .ok (.aload_n 0, 1) := by decide +kernel
theorem dCv_fewest_42 : decode cCv_fewest 42 = .ok (.getfield 25, 3) := by decide +kernel
theorem dCv_fewest_45 : decode cCv_fewest 45 = .ok (.iload_n 3, 1) := by decide +kernel
theorem dCv_fewest_46 : decode cCv_fewest 46 = .ok (.iaload, 1) := by decide +kernel
theorem dCv_fewest_47 : decode cCv_fewest 47 = .ok (.if_icmp .le 6, 3) := by decide +kernel
theorem dCv_fewest_50 : decode cCv_fewest 50 = .ok (.goto 42, 3) := by decide +kernel
theorem dCv_fewest_53 : decode cCv_fewest 53 = .ok (.aload_n 0, 1) := by decide +kernel
theorem dCv_fewest_54 : decode cCv_fewest 54 = .ok (.aload_n 1, 1) := by decide +kernel
theorem dCv_fewest_55 : decode cCv_fewest 55 = .ok (.lload 8, 2) := by decide +kernel
theorem dCv_fewest_57 : decode cCv_fewest 57 = .ok (.invokevirtual 123, 3) := by decide +kernel
theorem dCv_fewest_60 : decode cCv_fewest 60 = .ok (.istore 10, 2) := by decide +kernel
theorem dCv_fewest_62 : decode cCv_fewest 62 = .ok (.iload 10, 2) := by decide +kernel
theorem dCv_fewest_64 : decode cCv_fewest 64 = .ok (.iload 6, 2) := by decide +kernel
theorem dCv_fewest_66 : decode cCv_fewest 66 = .ok (.if_icmp .lt 18, 3) := by decide +kernel
theorem dCv_fewest_69 : decode cCv_fewest 69 = .ok (.iload 10, 2) := by decide +kernel
theorem dCv_fewest_71 : decode cCv_fewest 71 = .ok (.iload 6, 2) := by decide +kernel
theorem dCv_fewest_73 : decode cCv_fewest 73 = .ok (.if_icmp .ne 19, 3) := by decide +kernel
theorem dCv_fewest_76 : decode cCv_fewest 76 = .ok (.lload 8, 2) := by decide +kernel
theorem dCv_fewest_78 : decode cCv_fewest 78 = .ok (.lload 4, 2) := by decide +kernel
theorem dCv_fewest_80 : decode cCv_fewest 80 = .ok (.lcmp, 1) := by decide +kernel
theorem dCv_fewest_81 : decode cCv_fewest 81 = .ok (.ifCond .ge 11, 3) := by decide +kernel
theorem dCv_fewest_84 : decode cCv_fewest 84 = .ok (.iload 10, 2) := by decide +kernel
theorem dCv_fewest_86 : decode cCv_fewest 86 = .ok (.istore 6, 2) := by decide +kernel
theorem dCv_fewest_88 : decode cCv_fewest 88 = .ok (.lload 8, 2) := by decide +kernel
theorem dCv_fewest_90 : decode cCv_fewest 90 = .ok (.lstore 4, 2) := by decide +kernel
theorem dCv_fewest_92 : decode cCv_fewest 92 = .ok (.iinc 7 1, 3) := by decide +kernel
theorem dCv_fewest_95 : decode cCv_fewest 95 = .ok (.goto (-78), 3) := by decide +kernel
theorem dCv_fewest_98 : decode cCv_fewest 98 = .ok (.lload 4, 2) := by decide +kernel
theorem dCv_fewest_100 : decode cCv_fewest 100 = .ok (.lreturn, 1) := by decide +kernel
theorem wv_1474 : Cond.methodLink "CellForge$Cover" 114 (⟨"CellForge$Cuts", "behindLastOf", "(I)I"⟩ : MethodName) ∈ cfB := cf_in 1474 (by decide +kernel) rfl
theorem wv_1348 : Cond.code (⟨"CellForge$Cuts", "behindLastOf", "(I)I"⟩ : MethodName) prog_4_method_5_code 2 (Option.some Jvm.ClassFile.FieldType.int) ∈ cfB := cf_in 1348 (by decide +kernel) rfl
theorem wv_1346 : Cond.instanceMethod (⟨"CellForge$Cuts", "behindLastOf", "(I)I"⟩ : MethodName) ∈ cfB := cf_in 1346 (by decide +kernel) rfl
theorem wv_1347 : Cond.selects "CellForge$Cuts" (⟨"CellForge$Cuts", "behindLastOf", "(I)I"⟩ : MethodName) (⟨"CellForge$Cuts", "behindLastOf", "(I)I"⟩ : MethodName) ∈ cfB := cf_in 1347 (by decide +kernel) rfl
theorem wv_1475 : Cond.methodLink "CellForge$Cover" 117 (⟨"CellForge$Cuts", "cutAt", "(I)J"⟩ : MethodName) ∈ cfB := cf_in 1475 (by decide +kernel) rfl
theorem wv_1478 : Cond.code (⟨"CellForge$Cuts", "cutAt", "(I)J"⟩ : MethodName) prog_4_method_6_code 2 (Option.some Jvm.ClassFile.FieldType.long) ∈ cfB := cf_in 1478 (by decide +kernel) rfl
theorem wv_1476 : Cond.instanceMethod (⟨"CellForge$Cuts", "cutAt", "(I)J"⟩ : MethodName) ∈ cfB := cf_in 1476 (by decide +kernel) rfl
theorem wv_1477 : Cond.selects "CellForge$Cuts" (⟨"CellForge$Cuts", "cutAt", "(I)J"⟩ : MethodName) (⟨"CellForge$Cuts", "cutAt", "(I)J"⟩ : MethodName) ∈ cfB := cf_in 1477 (by decide +kernel) rfl
theorem wv_1479 : Cond.methodLink "CellForge$Cover" 120 (⟨"CellForge$Cuts", "depthOf", "(J)I"⟩ : MethodName) ∈ cfB := cf_in 1479 (by decide +kernel) rfl
theorem wv_1329 : Cond.code (⟨"CellForge$Cuts", "depthOf", "(J)I"⟩ : MethodName) prog_4_method_14_code 6 (Option.some Jvm.ClassFile.FieldType.int) ∈ cfB := cf_in 1329 (by decide +kernel) rfl
theorem wv_1327 : Cond.instanceMethod (⟨"CellForge$Cuts", "depthOf", "(J)I"⟩ : MethodName) ∈ cfB := cf_in 1327 (by decide +kernel) rfl
theorem wv_1328 : Cond.selects "CellForge$Cuts" (⟨"CellForge$Cuts", "depthOf", "(J)I"⟩ : MethodName) (⟨"CellForge$Cuts", "depthOf", "(J)I"⟩ : MethodName) ∈ cfB := cf_in 1328 (by decide +kernel) rfl
theorem wv_1480 : Cond.methodLink "CellForge$Cover" 123 (⟨"CellForge$Cover", "unwantedIn", "(LCellForge$Graph;J)I"⟩ : MethodName) ∈ cfB := cf_in 1480 (by decide +kernel) rfl
theorem wv_1483 : Cond.code (⟨"CellForge$Cover", "unwantedIn", "(LCellForge$Graph;J)I"⟩ : MethodName) prog_3_method_7_code 8 (Option.some Jvm.ClassFile.FieldType.int) ∈ cfB := cf_in 1483 (by decide +kernel) rfl
theorem wv_1482 : Cond.instanceMethod (⟨"CellForge$Cover", "unwantedIn", "(LCellForge$Graph;J)I"⟩ : MethodName) ∈ cfB := cf_in 1482 (by decide +kernel) rfl
theorem wv_54 : Cond.selects "CellForge$Cover" (⟨"CellForge$Cover", "unwantedIn", "(LCellForge$Graph;J)I"⟩ : MethodName) (⟨"CellForge$Cover", "unwantedIn", "(LCellForge$Graph;J)I"⟩ : MethodName) ∈ cfB := cf_in 54 (by decide +kernel) rfl
theorem wv_1472 : Cond.constantLong "CellForge$Cover" 108 9223372036854775807 ∈ cfB := cf_in 1472 (by decide +kernel) rfl
theorem wv_1473 : Cond.methodLink "CellForge$Cover" 110 (⟨"CellForge$Cuts", "firstOf", "(I)I"⟩ : MethodName) ∈ cfB := cf_in 1473 (by decide +kernel) rfl
theorem wv_1344 : Cond.code (⟨"CellForge$Cuts", "firstOf", "(I)I"⟩ : MethodName) prog_4_method_4_code 2 (Option.some Jvm.ClassFile.FieldType.int) ∈ cfB := cf_in 1344 (by decide +kernel) rfl
theorem wv_1342 : Cond.instanceMethod (⟨"CellForge$Cuts", "firstOf", "(I)I"⟩ : MethodName) ∈ cfB := cf_in 1342 (by decide +kernel) rfl
theorem wv_1343 : Cond.selects "CellForge$Cuts" (⟨"CellForge$Cuts", "firstOf", "(I)I"⟩ : MethodName) (⟨"CellForge$Cuts", "firstOf", "(I)I"⟩ : MethodName) ∈ cfB := cf_in 1343 (by decide +kernel) rfl
def yCu_bestOf : MethodName := ⟨"CellForge$Cuts", "bestOf", "(I)J"⟩
abbrev cCu_bestOf : ByteArray := prog_4_method_15_code
theorem dCu_bestOf_0 : decode cCu_bestOf 0 = .ok (.ldc2_w 109, 3) := by decide +kernel
theorem dCu_bestOf_3 : decode cCu_bestOf 3 = .ok (.lstore_n 2, 1) := by decide +kernel
theorem dCu_bestOf_4 : decode cCu_bestOf 4 = .ok (.aload_n 0, 1) := by decide +kernel
theorem dCu_bestOf_5 : decode cCu_bestOf 5 = .ok (.iload_n 1, 1) := by decide +kernel
theorem dCu_bestOf_6 : decode cCu_bestOf 6 = .ok (.invokevirtual 111, 3) := by decide +kernel
theorem dCu_bestOf_9 : decode cCu_bestOf 9 = .ok (.istore 4, 2) := by decide +kernel
theorem dCu_bestOf_11 : decode cCu_bestOf 11 = .ok (.iload 4, 2) := by decide +kernel
theorem dCu_bestOf_13 : decode cCu_bestOf 13 = .ok (.aload_n 0, 1) := by decide +kernel
theorem dCu_bestOf_14 : decode cCu_bestOf 14 = .ok (.iload_n 1, 1) := by decide +kernel
theorem dCu_bestOf_15 : decode cCu_bestOf 15 = .ok (.invokevirtual 115, 3) := by decide +kernel
theorem dCu_bestOf_18 : decode cCu_bestOf 18 = .ok (.if_icmp .ge 49, 3) := by decide +kernel
theorem dCu_bestOf_21 : decode cCu_bestOf 21 = .ok (.aload_n 0, 1) := by decide +kernel
theorem dCu_bestOf_22 : decode cCu_bestOf 22 = .ok (.getfield 18, 3) := by decide +kernel
theorem dCu_bestOf_25 : decode cCu_bestOf 25 = .ok (.iload 4, 2) := by decide +kernel
theorem dCu_bestOf_27 : decode cCu_bestOf 27 = .ok (.laload, 1) := by decide +kernel
theorem dCu_bestOf_28 : decode cCu_bestOf 28 = .ok (.lload_n 2, 1) := by decide +kernel
theorem dCu_bestOf_29 : decode cCu_bestOf 29 = .ok (.lcmp, 1) := by decide +kernel
theorem dCu_bestOf_30 : decode cCu_bestOf 30 = .ok (.ifCond .ge 31, 3) := by decide +kernel
theorem dCu_bestOf_33 : decode cCu_bestOf 33 = .ok (.aload_n 0, 1) := by decide +kernel
theorem dCu_bestOf_34 : decode cCu_bestOf 34 = .ok (.aload_n 0, 1) := by decide +kernel
theorem dCu_bestOf_35 : decode cCu_bestOf 35 = .ok (.getfield 18, 3) := by decide +kernel
theorem dCu_bestOf_38 : decode cCu_bestOf 38 = .ok (.iload 4, 2) := by decide +kernel
theorem dCu_bestOf_40 : decode cCu_bestOf 40 = .ok (.laload, 1) := by decide +kernel
theorem dCu_bestOf_41 : decode cCu_bestOf 41 = .ok (.invokevirtual 71, 3) := by decide +kernel
theorem dCu_bestOf_44 : decode cCu_bestOf 44 = .ok (.aload_n 0, 1) := by decide +kernel
theorem dCu_bestOf_45 : decode cCu_bestOf 45 = .ok (.getfield 9, 3) := by decide +kernel
theorem dCu_bestOf_48 : decode cCu_bestOf 48 = .ok (.iload_n 1, 1) := by decide +kernel
theorem dCu_bestOf_49 : decode cCu_bestOf 49 = .ok (.iaload, 1) := by decide +kernel
theorem dCu_bestOf_50 : decode cCu_bestOf 50 = .ok (.if_icmp .ne 11, 3) := by decide +kernel
theorem dCu_bestOf_53 : decode cCu_bestOf 53 = .ok (.aload_n 0, 1) := by decide +kernel
theorem dCu_bestOf_54 : decode cCu_bestOf 54 = .ok (.getfield 18, 3) := by decide +kernel
theorem dCu_bestOf_57 : decode cCu_bestOf 57 = .ok (.iload 4, 2) := by decide +kernel
theorem dCu_bestOf_59 : decode cCu_bestOf 59 = .ok (.laload, 1) := by decide +kernel
theorem dCu_bestOf_60 : decode cCu_bestOf 60 = .ok (.lstore_n 2, 1) := by decide +kernel
theorem dCu_bestOf_61 : decode cCu_bestOf 61 = .ok (.iinc 4 1, 3) := by decide +kernel
theorem dCu_bestOf_64 : decode cCu_bestOf 64 = .ok (.goto (-53), 3) := by decide +kernel
theorem dCu_bestOf_67 : decode cCu_bestOf 67 = .ok (.lload_n 2, 1) := by decide +kernel
theorem dCu_bestOf_68 : decode cCu_bestOf 68 = .ok (.lreturn, 1) := by decide +kernel
theorem wv_1345 : Cond.methodLink "CellForge$Cuts" 115 (⟨"CellForge$Cuts", "behindLastOf", "(I)I"⟩ : MethodName) ∈ cfB := cf_in 1345 (by decide +kernel) rfl
theorem wv_1326 : Cond.methodLink "CellForge$Cuts" 71 (⟨"CellForge$Cuts", "depthOf", "(J)I"⟩ : MethodName) ∈ cfB := cf_in 1326 (by decide +kernel) rfl
theorem wv_1340 : Cond.constantLong "CellForge$Cuts" 109 9223372036854775807 ∈ cfB := cf_in 1340 (by decide +kernel) rfl
theorem wv_1341 : Cond.methodLink "CellForge$Cuts" 111 (⟨"CellForge$Cuts", "firstOf", "(I)I"⟩ : MethodName) ∈ cfB := cf_in 1341 (by decide +kernel) rfl
def yCu_nodeAt : MethodName := ⟨"CellForge$Cuts", "nodeAt", "(JI)I"⟩
abbrev cCu_nodeAt : ByteArray := prog_4_method_3_code
theorem dCu_nodeAt_0 : decode cCu_nodeAt 0 = .ok (.lload_n 0, 1) := by decide +kernel
theorem dCu_nodeAt_1 : decode cCu_nodeAt 1 = .ok (.bipush 8, 2) := by decide +kernel
theorem dCu_nodeAt_3 : decode cCu_nodeAt 3 = .ok (.lload_n 0, 1) := by decide +kernel
theorem dCu_nodeAt_4 : decode cCu_nodeAt 4 = .ok (.invokestatic 31, 3) := by decide +kernel
theorem dCu_nodeAt_7 : decode cCu_nodeAt 7 = .ok (.iconst 1, 1) := by decide +kernel
theorem dCu_nodeAt_8 : decode cCu_nodeAt 8 = .ok (.isub, 1) := by decide +kernel
theorem dCu_nodeAt_9 : decode cCu_nodeAt 9 = .ok (.iload_n 2, 1) := by decide +kernel
theorem dCu_nodeAt_10 : decode cCu_nodeAt 10 = .ok (.isub, 1) := by decide +kernel
theorem dCu_nodeAt_11 : decode cCu_nodeAt 11 = .ok (.imul, 1) := by decide +kernel
theorem dCu_nodeAt_12 : decode cCu_nodeAt 12 = .ok (.lushr, 1) := by decide +kernel
theorem dCu_nodeAt_13 : decode cCu_nodeAt 13 = .ok (.ldc2_w 34, 3) := by decide +kernel
theorem dCu_nodeAt_16 : decode cCu_nodeAt 16 = .ok (.land, 1) := by decide +kernel
theorem dCu_nodeAt_17 : decode cCu_nodeAt 17 = .ok (.l2i, 1) := by decide +kernel
theorem dCu_nodeAt_18 : decode cCu_nodeAt 18 = .ok (.ireturn, 1) := by decide +kernel
theorem wv_1494 : Cond.methodLink "CellForge$Cuts" 31 (⟨"CellForge$Cuts", "sizeOf", "(J)I"⟩ : MethodName) ∈ cfB := cf_in 1494 (by decide +kernel) rfl
def yCv_wantNodes : MethodName := ⟨"CellForge$Cover", "wantNodes", "(LCellForge$Graph;JI)V"⟩
abbrev cCv_wantNodes : ByteArray := prog_3_method_5_code
theorem dCv_wantNodes_0 : decode cCv_wantNodes 0 = .ok (.iconst 0, 1) := by decide +kernel
theorem dCv_wantNodes_1 : decode cCv_wantNodes 1 = .ok (.istore 5, 2) := by decide +kernel
theorem dCv_wantNodes_3 : decode cCv_wantNodes 3 = .ok (.iload 5, 2) := by decide +kernel
theorem dCv_wantNodes_5 : decode cCv_wantNodes 5 = .ok (.lload_n 2, 1) := by decide +kernel
theorem dCv_wantNodes_6 : decode cCv_wantNodes 6 = .ok (.invokestatic 95, 3) := by decide +kernel
theorem dCv_wantNodes_9 : decode cCv_wantNodes 9 = .ok (.if_icmp .ge 61, 3) := by decide +kernel
theorem dCv_wantNodes_12 : decode cCv_wantNodes 12 = .ok (.lload_n 2, 1) := by decide +kernel
theorem dCv_wantNodes_13 : decode cCv_wantNodes 13 = .ok (.iload 5, 2) := by decide +kernel
theorem dCv_wantNodes_15 : decode cCv_wantNodes 15 = .ok (.invokestatic 99, 3) := by decide +kernel
theorem dCv_wantNodes_18 : decode cCv_wantNodes 18 = .ok (.istore 6, 2) := by decide +kernel
theorem dCv_wantNodes_20 : decode cCv_wantNodes 20 = .ok (.aload_n 1, 1) := by decide +kernel
theorem dCv_wantNodes_21 : decode cCv_wantNodes 21 = .ok (.iload 6, 2) := by decide +kernel
theorem dCv_wantNodes_23 : decode cCv_wantNodes 23 = .ok (.invokevirtual 91, 3) := by decide +kernel
theorem dCv_wantNodes_26 : decode cCv_wantNodes 26 = .ok (.ifCond .eq 38, 3) := by decide +kernel
theorem dCv_wantNodes_29 : decode cCv_wantNodes 29 = .ok (.aload_n 0, 1) := by decide +kernel
theorem dCv_wantNodes_30 : decode cCv_wantNodes 30 = .ok (.getfield 25, 3) := by decide +kernel
theorem dCv_wantNodes_33 : decode cCv_wantNodes 33 = .ok (.iload 6, 2) := by decide +kernel
theorem dCv_wantNodes_35 : decode cCv_wantNodes 35 = .ok (.aload_n 0, 1) := by decide +kernel
theorem dCv_wantNodes_36 : decode cCv_wantNodes 36 = .ok (.getfield 25, 3) := by decide +kernel
theorem dCv_wantNodes_39 : decode cCv_wantNodes 39 = .ok (.iload 6, 2) := by decide +kernel
theorem dCv_wantNodes_41 : decode cCv_wantNodes 41 = .ok (.iaload, 1) := by decide +kernel
theorem dCv_wantNodes_42 : decode cCv_wantNodes 42 = .ok (.iconst (-1), 1) := by decide +kernel
theorem dCv_wantNodes_43 : decode cCv_wantNodes 43 = .ok (.if_icmp .ne 8, 3) := by decide +kernel
theorem dCv_wantNodes_46 : decode cCv_wantNodes 46 = .ok (.iload 4, 2) := by decide +kernel
theorem dCv_wantNodes_48 : decode cCv_wantNodes 48 = .ok (.goto 15, 3) := by decide +kernel
theorem dCv_wantNodes_51 : decode cCv_wantNodes 51 = .ok (.aload_n 0, 1) := by decide +kernel
theorem dCv_wantNodes_52 : decode cCv_wantNodes 52 = .ok (.getfield 25, 3) := by decide +kernel
theorem dCv_wantNodes_55 : decode cCv_wantNodes 55 = .ok (.iload 6, 2) := by decide +kernel
theorem dCv_wantNodes_57 : decode cCv_wantNodes 57 = .ok (.iaload, 1) := by decide +kernel
theorem dCv_wantNodes_58 : decode cCv_wantNodes 58 = .ok (.iload 4, 2) := by decide +kernel
theorem dCv_wantNodes_60 : decode cCv_wantNodes 60 = .ok (.invokestatic 103, 3) := by decide +kernel
theorem dCv_wantNodes_63 : decode cCv_wantNodes 63 = .ok (.iastore, 1) := by decide +kernel
theorem dCv_wantNodes_64 : decode cCv_wantNodes 64 = .ok (.iinc 5 1, 3) := by decide +kernel
theorem dCv_wantNodes_67 : decode cCv_wantNodes 67 = .ok (.goto (-64), 3) := by decide +kernel
theorem dCv_wantNodes_70 : decode cCv_wantNodes 70 = .ok (.return_, 1) := by decide +kernel
theorem wv_1490 : Cond.methodLink "CellForge$Cover" 95 (⟨"CellForge$Cuts", "sizeOf", "(J)I"⟩ : MethodName) ∈ cfB := cf_in 1490 (by decide +kernel) rfl
theorem wv_1491 : Cond.methodLink "CellForge$Cover" 99 (⟨"CellForge$Cuts", "nodeAt", "(JI)I"⟩ : MethodName) ∈ cfB := cf_in 1491 (by decide +kernel) rfl
theorem wv_1493 : Cond.code (⟨"CellForge$Cuts", "nodeAt", "(JI)I"⟩ : MethodName) prog_4_method_3_code 3 (Option.some Jvm.ClassFile.FieldType.int) ∈ cfB := cf_in 1493 (by decide +kernel) rfl
theorem wv_1492 : Cond.static (⟨"CellForge$Cuts", "nodeAt", "(JI)I"⟩ : MethodName) ∈ cfB := cf_in 1492 (by decide +kernel) rfl
theorem wv_1495 : Cond.methodLink "CellForge$Cover" 103 (⟨"java/lang/Math", "min", "(II)I"⟩ : MethodName) ∈ cfB := cf_in 1495 (by decide +kernel) rfl
def yCv_choose : MethodName := ⟨"CellForge$Cover", "choose", "(LCellForge$Graph;LCellForge$Cuts;LCellForge$Cone;Z)V"⟩
abbrev cCv_choose : ByteArray := prog_3_method_3_code
theorem dCv_choose_0 : decode cCv_choose 0 = .ok (.aload_n 0, 1) := by decide +kernel
theorem dCv_choose_1 : decode cCv_choose 1 = .ok (.aload_n 1, 1) := by decide +kernel
theorem dCv_choose_2 : decode cCv_choose 2 = .ok (.aload_n 2, 1) := by decide +kernel
theorem dCv_choose_3 : decode cCv_choose 3 = .ok (.invokevirtual 28, 3) := by decide +kernel
theorem dCv_choose_6 : decode cCv_choose 6 = .ok (.aload_n 1, 1) := by decide +kernel
theorem dCv_choose_7 : decode cCv_choose 7 = .ok (.invokevirtual 32, 3) := by decide +kernel
theorem dCv_choose_10 : decode cCv_choose 10 = .ok (.iconst 1, 1) := by decide +kernel
theorem dCv_choose_11 : decode cCv_choose 11 = .ok (.isub, 1) := by decide +kernel
theorem dCv_choose_12 : decode cCv_choose 12 = .ok (.istore 5, 2) := by decide +kernel
theorem dCv_choose_14 : decode cCv_choose 14 = .ok (.iload 5, 2) := by decide +kernel
theorem dCv_choose_16 : decode cCv_choose 16 = .ok (.aload_n 1, 1) := by decide +kernel
theorem dCv_choose_17 : decode cCv_choose 17 = .ok (.getfield 38, 3) := by decide +kernel
theorem dCv_choose_20 : decode cCv_choose 20 = .ok (.if_icmp .le 70, 3) := by decide +kernel
theorem dCv_choose_23 : decode cCv_choose 23 = .ok (.aload_n 0, 1) := by decide +kernel
theorem dCv_choose_24 : decode cCv_choose 24 = .ok (.getfield 25, 3) := by decide +kernel
theorem dCv_choose_27 : decode cCv_choose 27 = .ok (.iload 5, 2) := by decide +kernel
theorem dCv_choose_29 : decode cCv_choose 29 = .ok (.iaload, 1) := by decide +kernel
theorem dCv_choose_30 : decode cCv_choose 30 = .ok (.iconst (-1), 1) := by decide +kernel
theorem dCv_choose_31 : decode cCv_choose 31 = .ok (.if_icmp .eq 53, 3) := by decide +kernel
theorem dCv_choose_34 : decode cCv_choose 34 = .ok (.aload_n 0, 1) := by decide +kernel
theorem dCv_choose_35 : decode cCv_choose 35 = .ok (.getfield 21, 3) := by decide +kernel
theorem dCv_choose_38 : decode cCv_choose 38 = .ok (.iload 5, 2) := by decide +kernel
theorem dCv_choose_40 : decode cCv_choose 40 = .ok (.iload 4, 2) := by decide +kernel
theorem dCv_choose_42 : decode cCv_choose 42 = .ok (.ifCond .eq 14, 3) := by decide +kernel
theorem dCv_choose_45 : decode cCv_choose 45 = .ok (.aload_n 0, 1) := by decide +kernel
theorem dCv_choose_46 : decode cCv_choose 46 = .ok (.aload_n 1, 1) := by decide +kernel
theorem dCv_choose_47 : decode cCv_choose 47 = .ok (.aload_n 2, 1) := by decide +kernel
theorem dCv_choose_48 : decode cCv_choose 48 = .ok (.iload 5, 2) := by decide +kernel
theorem dCv_choose_50 : decode cCv_choose 50 = .ok (.invokevirtual 42, 3) := by decide +kernel
theorem dCv_choose_53 : decode cCv_choose 53 = .ok (.goto 9, 3) := by decide +kernel
theorem dCv_choose_56 : decode cCv_choose 56 = .ok (.aload_n 2, 1) := by decide +kernel
theorem dCv_choose_57 : decode cCv_choose 57 = .ok (.iload 5, 2) := by decide +kernel
theorem dCv_choose_59 : decode cCv_choose 59 = .ok (.invokevirtual 46, 3) := by decide +kernel
theorem dCv_choose_62 : decode cCv_choose 62 = .ok (.lastore, 1) := by decide +kernel
theorem dCv_choose_63 : decode cCv_choose 63 = .ok (.aload_n 0, 1) := by decide +kernel
theorem dCv_choose_64 : decode cCv_choose 64 = .ok (.aload_n 1, 1) := by decide +kernel
theorem dCv_choose_65 : decode cCv_choose 65 = .ok (.aload_n 0, 1) := by decide +kernel
theorem dCv_choose_66 : decode cCv_choose 66 = .ok (.getfield 21, 3) := by decide +kernel
theorem dCv_choose_69 : decode cCv_choose 69 = .ok (.iload 5, 2) := by decide +kernel
theorem dCv_choose_71 : decode cCv_choose 71 = .ok (.laload, 1) := by decide +kernel
theorem dCv_choose_72 : decode cCv_choose 72 = .ok (.aload_n 0, 1) := by decide +kernel
theorem dCv_choose_73 : decode cCv_choose 73 = .ok (.getfield 25, 3) := by decide +kernel
theorem dCv_choose_76 : decode cCv_choose 76 = .ok (.iload 5, 2) := by decide +kernel
theorem dCv_choose_78 : decode cCv_choose 78 = .ok (.iaload, 1) := by decide +kernel
theorem dCv_choose_79 : decode cCv_choose 79 = .ok (.iconst 1, 1) := by decide +kernel
theorem dCv_choose_80 : decode cCv_choose 80 = .ok (.isub, 1) := by decide +kernel
theorem dCv_choose_81 : decode cCv_choose 81 = .ok (.invokevirtual 52, 3) := by decide +kernel
theorem dCv_choose_84 : decode cCv_choose 84 = .ok (.iinc 5 (-1), 3) := by decide +kernel
theorem dCv_choose_87 : decode cCv_choose 87 = .ok (.goto (-73), 3) := by decide +kernel
theorem dCv_choose_90 : decode cCv_choose 90 = .ok (.aload_n 0, 1) := by decide +kernel
theorem dCv_choose_91 : decode cCv_choose 91 = .ok (.iconst 0, 1) := by decide +kernel
theorem dCv_choose_92 : decode cCv_choose 92 = .ok (.putfield 56, 3) := by decide +kernel
theorem dCv_choose_95 : decode cCv_choose 95 = .ok (.aload_n 1, 1) := by decide +kernel
theorem dCv_choose_96 : decode cCv_choose 96 = .ok (.getfield 38, 3) := by decide +kernel
theorem dCv_choose_99 : decode cCv_choose 99 = .ok (.iconst 1, 1) := by decide +kernel
theorem dCv_choose_100 : decode cCv_choose 100 = .ok (.iadd, 1) := by decide +kernel
theorem dCv_choose_101 : decode cCv_choose 101 = .ok (.istore 5, 2) := by decide +kernel
theorem dCv_choose_103 : decode cCv_choose 103 = .ok (.iload 5, 2) := by decide +kernel
theorem dCv_choose_105 : decode cCv_choose 105 = .ok (.aload_n 1, 1) := by decide +kernel
theorem dCv_choose_106 : decode cCv_choose 106 = .ok (.invokevirtual 32, 3) := by decide +kernel
theorem dCv_choose_109 : decode cCv_choose 109 = .ok (.if_icmp .ge 84, 3) := by decide +kernel
theorem dCv_choose_112 : decode cCv_choose 112 = .ok (.aload_n 0, 1) := by decide +kernel
theorem dCv_choose_113 : decode cCv_choose 113 = .ok (.getfield 25, 3) := by decide +kernel
theorem dCv_choose_116 : decode cCv_choose 116 = .ok (.iload 5, 2) := by decide +kernel
theorem dCv_choose_118 : decode cCv_choose 118 = .ok (.iaload, 1) := by decide +kernel
theorem dCv_choose_119 : decode cCv_choose 119 = .ok (.iconst (-1), 1) := by decide +kernel
theorem dCv_choose_120 : decode cCv_choose 120 = .ok (.if_icmp .eq 67, 3) := by decide +kernel
theorem dCv_choose_123 : decode cCv_choose 123 = .ok (.aload_n 3, 1) := by decide +kernel
theorem dCv_choose_124 : decode cCv_choose 124 = .ok (.aload_n 1, 1) := by decide +kernel
theorem dCv_choose_125 : decode cCv_choose 125 = .ok (.iload 5, 2) := by decide +kernel
theorem dCv_choose_127 : decode cCv_choose 127 = .ok (.aload_n 0, 1) := by decide +kernel
theorem dCv_choose_128 : decode cCv_choose 128 = .ok (.getfield 21, 3) := by decide +kernel
theorem dCv_choose_131 : decode cCv_choose 131 = .ok (.iload 5, 2) := by decide +kernel
theorem dCv_choose_133 : decode cCv_choose 133 = .ok (.laload, 1) := by decide +kernel
theorem dCv_choose_134 : decode cCv_choose 134 = .ok (.invokevirtual 58, 3) := by decide +kernel
theorem dCv_choose_137 : decode cCv_choose 137 = .ok (.aload_n 0, 1) := by decide +kernel
theorem dCv_choose_138 : decode cCv_choose 138 = .ok (.getfield 9, 3) := by decide +kernel
theorem dCv_choose_141 : decode cCv_choose 141 = .ok (.aload_n 0, 1) := by decide +kernel
theorem dCv_choose_142 : decode cCv_choose 142 = .ok (.getfield 56, 3) := by decide +kernel
theorem dCv_choose_145 : decode cCv_choose 145 = .ok (.iload 5, 2) := by decide +kernel
theorem dCv_choose_147 : decode cCv_choose 147 = .ok (.iastore, 1) := by decide +kernel
theorem dCv_choose_148 : decode cCv_choose 148 = .ok (.aload_n 0, 1) := by decide +kernel
theorem dCv_choose_149 : decode cCv_choose 149 = .ok (.getfield 15, 3) := by decide +kernel
theorem dCv_choose_152 : decode cCv_choose 152 = .ok (.aload_n 0, 1) := by decide +kernel
theorem dCv_choose_153 : decode cCv_choose 153 = .ok (.getfield 56, 3) := by decide +kernel
theorem dCv_choose_156 : decode cCv_choose 156 = .ok (.aload_n 3, 1) := by decide +kernel
theorem dCv_choose_157 : decode cCv_choose 157 = .ok (.getfield 64, 3) := by decide +kernel
theorem dCv_choose_160 : decode cCv_choose 160 = .ok (.iastore, 1) := by decide +kernel
theorem dCv_choose_161 : decode cCv_choose 161 = .ok (.aload_n 0, 1) := by decide +kernel
theorem dCv_choose_162 : decode cCv_choose 162 = .ok (.getfield 18, 3) := by decide +kernel
theorem dCv_choose_165 : decode cCv_choose 165 = .ok (.aload_n 0, 1) := by decide +kernel
theorem dCv_choose_166 : decode cCv_choose 166 = .ok (.getfield 56, 3) := by decide +kernel
theorem dCv_choose_169 : decode cCv_choose 169 = .ok (.aload_n 2, 1) := by decide +kernel
theorem dCv_choose_170 : decode cCv_choose 170 = .ok (.getfield 67, 3) := by decide +kernel
theorem dCv_choose_173 : decode cCv_choose 173 = .ok (.iload 5, 2) := by decide +kernel
theorem dCv_choose_175 : decode cCv_choose 175 = .ok (.iaload, 1) := by decide +kernel
theorem dCv_choose_176 : decode cCv_choose 176 = .ok (.iastore, 1) := by decide +kernel
theorem dCv_choose_177 : decode cCv_choose 177 = .ok (.aload_n 0, 1) := by decide +kernel
theorem dCv_choose_178 : decode cCv_choose 178 = .ok (.dup, 1) := by decide +kernel
theorem dCv_choose_179 : decode cCv_choose 179 = .ok (.getfield 56, 3) := by decide +kernel
theorem dCv_choose_182 : decode cCv_choose 182 = .ok (.iconst 1, 1) := by decide +kernel
theorem dCv_choose_183 : decode cCv_choose 183 = .ok (.iadd, 1) := by decide +kernel
theorem dCv_choose_184 : decode cCv_choose 184 = .ok (.putfield 56, 3) := by decide +kernel
theorem dCv_choose_187 : decode cCv_choose 187 = .ok (.iinc 5 1, 3) := by decide +kernel
theorem dCv_choose_190 : decode cCv_choose 190 = .ok (.goto (-87), 3) := by decide +kernel
theorem dCv_choose_193 : decode cCv_choose 193 = .ok (.return_, 1) := by decide +kernel
theorem wv_1467 : Cond.methodLink "CellForge$Cover" 32 (⟨"CellForge$Graph", "size", "()I"⟩ : MethodName) ∈ cfB := cf_in 1467 (by decide +kernel) rfl
theorem wv_1496 : Cond.methodLink "CellForge$Cover" 58 (⟨"CellForge$Cone", "find", "(LCellForge$Graph;IJ)V"⟩ : MethodName) ∈ cfB := cf_in 1496 (by decide +kernel) rfl
set_option maxRecDepth 100000 in
theorem wv_1352 : Cond.code (⟨"CellForge$Cone", "find", "(LCellForge$Graph;IJ)V"⟩ : MethodName) prog_2_method_4_code 6 (Option.none : Option Jvm.ClassFile.FieldType) ∈ cfB := List.mem_filter.mpr ⟨List.mem_append_right _ (List.mem_append_right _ (List.mem_append_right _ (List.mem_append_right _ (List.mem_append_right _ (List.mem_append_left _ (List.mem_of_getElem? (i := 236) rfl)))))), rfl⟩
theorem wv_1350 : Cond.instanceMethod (⟨"CellForge$Cone", "find", "(LCellForge$Graph;IJ)V"⟩ : MethodName) ∈ cfB := cf_in 1350 (by decide +kernel) rfl
theorem wv_1351 : Cond.selects "CellForge$Cone" (⟨"CellForge$Cone", "find", "(LCellForge$Graph;IJ)V"⟩ : MethodName) (⟨"CellForge$Cone", "find", "(LCellForge$Graph;IJ)V"⟩ : MethodName) ∈ cfB := cf_in 1351 (by decide +kernel) rfl
theorem wv_369 : Cond.fieldLink "CellForge$Cover" 56 "CellForge$Cover" "size" "I" ∈ cfB := cf_in 369 (by decide +kernel) rfl
theorem wv_294 : Cond.fieldLink "CellForge$Cover" 64 "CellForge$Cone" "table" "I" ∈ cfB := cf_in 294 (by decide +kernel) rfl
theorem wv_1486 : Cond.methodLink "CellForge$Cover" 52 (⟨"CellForge$Cover", "wantNodes", "(LCellForge$Graph;JI)V"⟩ : MethodName) ∈ cfB := cf_in 1486 (by decide +kernel) rfl
theorem wv_1489 : Cond.code (⟨"CellForge$Cover", "wantNodes", "(LCellForge$Graph;JI)V"⟩ : MethodName) prog_3_method_5_code 7 (Option.none : Option Jvm.ClassFile.FieldType) ∈ cfB := cf_in 1489 (by decide +kernel) rfl
theorem wv_1488 : Cond.instanceMethod (⟨"CellForge$Cover", "wantNodes", "(LCellForge$Graph;JI)V"⟩ : MethodName) ∈ cfB := cf_in 1488 (by decide +kernel) rfl
theorem wv_55 : Cond.selects "CellForge$Cover" (⟨"CellForge$Cover", "wantNodes", "(LCellForge$Graph;JI)V"⟩ : MethodName) (⟨"CellForge$Cover", "wantNodes", "(LCellForge$Graph;JI)V"⟩ : MethodName) ∈ cfB := cf_in 55 (by decide +kernel) rfl
theorem wv_549 : Cond.fieldLink "CellForge$Cover" 38 "CellForge$Graph" "inputs" "I" ∈ cfB := cf_in 549 (by decide +kernel) rfl
theorem wv_1485 : Cond.methodLink "CellForge$Cover" 46 (⟨"CellForge$Cuts", "bestOf", "(I)J"⟩ : MethodName) ∈ cfB := cf_in 1485 (by decide +kernel) rfl
theorem wv_1339 : Cond.code (⟨"CellForge$Cuts", "bestOf", "(I)J"⟩ : MethodName) prog_4_method_15_code 5 (Option.some Jvm.ClassFile.FieldType.long) ∈ cfB := cf_in 1339 (by decide +kernel) rfl
theorem wv_1337 : Cond.instanceMethod (⟨"CellForge$Cuts", "bestOf", "(I)J"⟩ : MethodName) ∈ cfB := cf_in 1337 (by decide +kernel) rfl
theorem wv_1338 : Cond.selects "CellForge$Cuts" (⟨"CellForge$Cuts", "bestOf", "(I)J"⟩ : MethodName) (⟨"CellForge$Cuts", "bestOf", "(I)J"⟩ : MethodName) ∈ cfB := cf_in 1338 (by decide +kernel) rfl
theorem wv_1468 : Cond.methodLink "CellForge$Cover" 42 (⟨"CellForge$Cover", "fewest", "(LCellForge$Graph;LCellForge$Cuts;I)J"⟩ : MethodName) ∈ cfB := cf_in 1468 (by decide +kernel) rfl
theorem wv_1471 : Cond.code (⟨"CellForge$Cover", "fewest", "(LCellForge$Graph;LCellForge$Cuts;I)J"⟩ : MethodName) prog_3_method_6_code 11 (Option.some Jvm.ClassFile.FieldType.long) ∈ cfB := cf_in 1471 (by decide +kernel) rfl
theorem wv_1470 : Cond.instanceMethod (⟨"CellForge$Cover", "fewest", "(LCellForge$Graph;LCellForge$Cuts;I)J"⟩ : MethodName) ∈ cfB := cf_in 1470 (by decide +kernel) rfl
theorem wv_53 : Cond.selects "CellForge$Cover" (⟨"CellForge$Cover", "fewest", "(LCellForge$Graph;LCellForge$Cuts;I)J"⟩ : MethodName) (⟨"CellForge$Cover", "fewest", "(LCellForge$Graph;LCellForge$Cuts;I)J"⟩ : MethodName) ∈ cfB := cf_in 53 (by decide +kernel) rfl
theorem wv_1460 : Cond.methodLink "CellForge$Cover" 28 (⟨"CellForge$Cover", "wantOutputs", "(LCellForge$Graph;LCellForge$Cuts;)V"⟩ : MethodName) ∈ cfB := cf_in 1460 (by decide +kernel) rfl
theorem wv_1463 : Cond.code (⟨"CellForge$Cover", "wantOutputs", "(LCellForge$Graph;LCellForge$Cuts;)V"⟩ : MethodName) prog_3_method_4_code 5 (Option.none : Option Jvm.ClassFile.FieldType) ∈ cfB := cf_in 1463 (by decide +kernel) rfl
theorem wv_1462 : Cond.instanceMethod (⟨"CellForge$Cover", "wantOutputs", "(LCellForge$Graph;LCellForge$Cuts;)V"⟩ : MethodName) ∈ cfB := cf_in 1462 (by decide +kernel) rfl
theorem wv_52 : Cond.selects "CellForge$Cover" (⟨"CellForge$Cover", "wantOutputs", "(LCellForge$Graph;LCellForge$Cuts;)V"⟩ : MethodName) (⟨"CellForge$Cover", "wantOutputs", "(LCellForge$Graph;LCellForge$Cuts;)V"⟩ : MethodName) ∈ cfB := cf_in 52 (by decide +kernel) rfl
def yJArraysSupport_newLength_III : MethodName := ⟨"jdk/internal/util/ArraysSupport", "newLength", "(III)I"⟩
abbrev cJArraysSupport_newLength_III : ByteArray := prog_35_method_27_code
theorem dJArraysSupport_newLength_III_0 : decode cJArraysSupport_newLength_III 0 = .ok (.iload_n 0, 1) := by decide +kernel
theorem dJArraysSupport_newLength_III_1 : decode cJArraysSupport_newLength_III 1 = .ok (.iload_n 1, 1) := by decide +kernel
theorem dJArraysSupport_newLength_III_2 : decode cJArraysSupport_newLength_III 2 = .ok (.iload_n 2, 1) := by decide +kernel
theorem dJArraysSupport_newLength_III_3 : decode cJArraysSupport_newLength_III 3 = .ok (.invokestatic 194, 3) := by decide +kernel
theorem dJArraysSupport_newLength_III_6 : decode cJArraysSupport_newLength_III 6 = .ok (.iadd, 1) := by decide +kernel
theorem dJArraysSupport_newLength_III_7 : decode cJArraysSupport_newLength_III 7 = .ok (.istore_n 3, 1) := by decide +kernel
theorem dJArraysSupport_newLength_III_8 : decode cJArraysSupport_newLength_III 8 = .ok (.iconst 0, 1) := by decide +kernel
theorem dJArraysSupport_newLength_III_9 : decode cJArraysSupport_newLength_III 9 = .ok (.iload_n 3, 1) := by decide +kernel
theorem dJArraysSupport_newLength_III_10 : decode cJArraysSupport_newLength_III 10 = .ok (.if_icmp .ge 11, 3) := by decide +kernel
theorem dJArraysSupport_newLength_III_13 : decode cJArraysSupport_newLength_III 13 = .ok (.iload_n 3, 1) := by decide +kernel
theorem dJArraysSupport_newLength_III_14 : decode cJArraysSupport_newLength_III 14 = .ok (.ldc 200, 2) := by decide +kernel
theorem dJArraysSupport_newLength_III_16 : decode cJArraysSupport_newLength_III 16 = .ok (.if_icmp .gt 5, 3) := by decide +kernel
theorem dJArraysSupport_newLength_III_19 : decode cJArraysSupport_newLength_III 19 = .ok (.iload_n 3, 1) := by decide +kernel
theorem dJArraysSupport_newLength_III_20 : decode cJArraysSupport_newLength_III 20 = .ok (.ireturn, 1) := by decide +kernel
theorem dJArraysSupport_newLength_III_21 : decode cJArraysSupport_newLength_III 21 = .ok (.iload_n 0, 1) := by decide +kernel
theorem dJArraysSupport_newLength_III_22 : decode cJArraysSupport_newLength_III 22 = .ok (.iload_n 1, 1) := by decide +kernel
theorem dJArraysSupport_newLength_III_23 : decode cJArraysSupport_newLength_III 23 = .ok (.invokestatic 201, 3) := by decide +kernel
theorem dJArraysSupport_newLength_III_26 : decode cJArraysSupport_newLength_III 26 = .ok (.ireturn, 1) := by decide +kernel
theorem wv_1576 : Cond.methodLink "jdk/internal/util/ArraysSupport" 194 (⟨"java/lang/Math", "max", "(II)I"⟩ : MethodName) ∈ cfB := cf_in 1576 (by decide +kernel) rfl
theorem wv_1577 : Cond.constant "jdk/internal/util/ArraysSupport" 200 2147483639 ∈ cfB := cf_in 1577 (by decide +kernel) rfl
def yAS_newCapacity : MethodName := ⟨"java/lang/AbstractStringBuilder", "newCapacity", "(I)I"⟩
abbrev cAS_newCapacity : ByteArray := prog_15_method_10_code
theorem dAS_newCapacity_0 : decode cAS_newCapacity 0 = .ok (.aload_n 0, 1) := by decide +kernel
theorem dAS_newCapacity_1 : decode cAS_newCapacity 1 = .ok (.getfield 15, 3) := by decide +kernel
theorem dAS_newCapacity_4 : decode cAS_newCapacity 4 = .ok (.arraylength, 1) := by decide +kernel
theorem dAS_newCapacity_5 : decode cAS_newCapacity 5 = .ok (.istore_n 2, 1) := by decide +kernel
theorem dAS_newCapacity_6 : decode cAS_newCapacity 6 = .ok (.iload_n 1, 1) := by decide +kernel
theorem dAS_newCapacity_7 : decode cAS_newCapacity 7 = .ok (.aload_n 0, 1) := by decide +kernel
theorem dAS_newCapacity_8 : decode cAS_newCapacity 8 = .ok (.getfield 22, 3) := by decide +kernel
theorem dAS_newCapacity_11 : decode cAS_newCapacity 11 = .ok (.ishl, 1) := by decide +kernel
theorem dAS_newCapacity_12 : decode cAS_newCapacity 12 = .ok (.istore_n 3, 1) := by decide +kernel
theorem dAS_newCapacity_13 : decode cAS_newCapacity 13 = .ok (.iload_n 3, 1) := by decide +kernel
theorem dAS_newCapacity_14 : decode cAS_newCapacity 14 = .ok (.iload_n 2, 1) := by decide +kernel
theorem dAS_newCapacity_15 : decode cAS_newCapacity 15 = .ok (.isub, 1) := by decide +kernel
theorem dAS_newCapacity_16 : decode cAS_newCapacity 16 = .ok (.istore 4, 2) := by decide +kernel
theorem dAS_newCapacity_18 : decode cAS_newCapacity 18 = .ok (.iload_n 2, 1) := by decide +kernel
theorem dAS_newCapacity_19 : decode cAS_newCapacity 19 = .ok (.iload 4, 2) := by decide +kernel
theorem dAS_newCapacity_21 : decode cAS_newCapacity 21 = .ok (.iload_n 2, 1) := by decide +kernel
theorem dAS_newCapacity_22 : decode cAS_newCapacity 22 = .ok (.iconst 2, 1) := by decide +kernel
theorem dAS_newCapacity_23 : decode cAS_newCapacity 23 = .ok (.aload_n 0, 1) := by decide +kernel
theorem dAS_newCapacity_24 : decode cAS_newCapacity 24 = .ok (.getfield 22, 3) := by decide +kernel
theorem dAS_newCapacity_27 : decode cAS_newCapacity 27 = .ok (.ishl, 1) := by decide +kernel
theorem dAS_newCapacity_28 : decode cAS_newCapacity 28 = .ok (.iadd, 1) := by decide +kernel
theorem dAS_newCapacity_29 : decode cAS_newCapacity 29 = .ok (.invokestatic 114, 3) := by decide +kernel
theorem dAS_newCapacity_32 : decode cAS_newCapacity 32 = .ok (.istore 5, 2) := by decide +kernel
theorem dAS_newCapacity_34 : decode cAS_newCapacity 34 = .ok (.iload 5, 2) := by decide +kernel
theorem dAS_newCapacity_36 : decode cAS_newCapacity 36 = .ok (.ldc 39, 2) := by decide +kernel
theorem dAS_newCapacity_38 : decode cAS_newCapacity 38 = .ok (.if_icmp .ne 13, 3) := by decide +kernel
theorem dAS_newCapacity_41 : decode cAS_newCapacity 41 = .ok (.new 120, 3) := by decide +kernel
theorem dAS_newCapacity_44 : decode cAS_newCapacity 44 = .ok (.dup, 1) := by decide +kernel
theorem dAS_newCapacity_45 : decode cAS_newCapacity 45 = .ok (.ldc 122, 2) := by decide +kernel
theorem dAS_newCapacity_47 : decode cAS_newCapacity 47 = .ok (.invokespecial 124, 3) := by decide +kernel
theorem dAS_newCapacity_50 : decode cAS_newCapacity 50 = .ok (.athrow, 1) := by decide +kernel
theorem dAS_newCapacity_51 : decode cAS_newCapacity 51 = .ok (.iload 5, 2) := by decide +kernel
theorem dAS_newCapacity_53 : decode cAS_newCapacity 53 = .ok (.aload_n 0, 1) := by decide +kernel
theorem dAS_newCapacity_54 : decode cAS_newCapacity 54 = .ok (.getfield 22, 3) := by decide +kernel
theorem dAS_newCapacity_57 : decode cAS_newCapacity 57 = .ok (.ishr, 1) := by decide +kernel
theorem dAS_newCapacity_58 : decode cAS_newCapacity 58 = .ok (.ireturn, 1) := by decide +kernel
theorem wv_189 : Cond.initialized "jdk/internal/util/ArraysSupport" ∈ cfB := cf_in 189 (by decide +kernel) rfl
theorem wv_1573 : Cond.methodLink "java/lang/AbstractStringBuilder" 114 (⟨"jdk/internal/util/ArraysSupport", "newLength", "(III)I"⟩ : MethodName) ∈ cfB := cf_in 1573 (by decide +kernel) rfl
theorem wv_1575 : Cond.code (⟨"jdk/internal/util/ArraysSupport", "newLength", "(III)I"⟩ : MethodName) prog_35_method_27_code 4 (Option.some Jvm.ClassFile.FieldType.int) ∈ cfB := cf_in 1575 (by decide +kernel) rfl
theorem wv_1574 : Cond.static (⟨"jdk/internal/util/ArraysSupport", "newLength", "(III)I"⟩ : MethodName) ∈ cfB := cf_in 1574 (by decide +kernel) rfl
theorem wv_1581 : Cond.constant "java/lang/AbstractStringBuilder" 39 2147483647 ∈ cfB := cf_in 1581 (by decide +kernel) rfl
def yAS_ensureCapacityInternal : MethodName := ⟨"java/lang/AbstractStringBuilder", "ensureCapacityInternal", "(I)V"⟩
abbrev cAS_ensureCapacityInternal : ByteArray := prog_15_method_9_code
theorem dAS_ensureCapacityInternal_0 : decode cAS_ensureCapacityInternal 0 = .ok (.aload_n 0, 1) := by decide +kernel
theorem dAS_ensureCapacityInternal_1 : decode cAS_ensureCapacityInternal 1 = .ok (.getfield 15, 3) := by decide +kernel
theorem dAS_ensureCapacityInternal_4 : decode cAS_ensureCapacityInternal 4 = .ok (.arraylength, 1) := by decide +kernel
theorem dAS_ensureCapacityInternal_5 : decode cAS_ensureCapacityInternal 5 = .ok (.aload_n 0, 1) := by decide +kernel
theorem dAS_ensureCapacityInternal_6 : decode cAS_ensureCapacityInternal 6 = .ok (.getfield 22, 3) := by decide +kernel
theorem dAS_ensureCapacityInternal_9 : decode cAS_ensureCapacityInternal 9 = .ok (.ishr, 1) := by decide +kernel
theorem dAS_ensureCapacityInternal_10 : decode cAS_ensureCapacityInternal 10 = .ok (.istore_n 2, 1) := by decide +kernel
theorem dAS_ensureCapacityInternal_11 : decode cAS_ensureCapacityInternal 11 = .ok (.iload_n 1, 1) := by decide +kernel
theorem dAS_ensureCapacityInternal_12 : decode cAS_ensureCapacityInternal 12 = .ok (.iload_n 2, 1) := by decide +kernel
theorem dAS_ensureCapacityInternal_13 : decode cAS_ensureCapacityInternal 13 = .ok (.isub, 1) := by decide +kernel
theorem dAS_ensureCapacityInternal_14 : decode cAS_ensureCapacityInternal 14 = .ok (.ifCond .le 24, 3) := by decide +kernel
theorem dAS_ensureCapacityInternal_17 : decode cAS_ensureCapacityInternal 17 = .ok (.aload_n 0, 1) := by decide +kernel
theorem dAS_ensureCapacityInternal_18 : decode cAS_ensureCapacityInternal 18 = .ok (.aload_n 0, 1) := by decide +kernel
theorem dAS_ensureCapacityInternal_19 : decode cAS_ensureCapacityInternal 19 = .ok (.getfield 15, 3) := by decide +kernel
theorem dAS_ensureCapacityInternal_22 : decode cAS_ensureCapacityInternal 22 = .ok (.aload_n 0, 1) := by decide +kernel
theorem dAS_ensureCapacityInternal_23 : decode cAS_ensureCapacityInternal 23 = .ok (.iload_n 1, 1) := by decide +kernel
theorem dAS_ensureCapacityInternal_24 : decode cAS_ensureCapacityInternal 24 = .ok (.invokevirtual 104, 3) := by decide +kernel
theorem dAS_ensureCapacityInternal_27 : decode cAS_ensureCapacityInternal 27 = .ok (.aload_n 0, 1) := by decide +kernel
theorem dAS_ensureCapacityInternal_28 : decode cAS_ensureCapacityInternal 28 = .ok (.getfield 22, 3) := by decide +kernel
theorem dAS_ensureCapacityInternal_31 : decode cAS_ensureCapacityInternal 31 = .ok (.ishl, 1) := by decide +kernel
theorem dAS_ensureCapacityInternal_32 : decode cAS_ensureCapacityInternal 32 = .ok (.invokestatic 108, 3) := by decide +kernel
theorem dAS_ensureCapacityInternal_35 : decode cAS_ensureCapacityInternal 35 = .ok (.putfield 15, 3) := by decide +kernel
theorem dAS_ensureCapacityInternal_38 : decode cAS_ensureCapacityInternal 38 = .ok (.return_, 1) := by decide +kernel
theorem wv_1582 : Cond.methodLink "java/lang/AbstractStringBuilder" 108 (⟨"java/util/Arrays", "copyOf", "([BI)[B"⟩ : MethodName) ∈ cfB := cf_in 1582 (by decide +kernel) rfl
theorem wv_1583 : Cond.static (⟨"java/util/Arrays", "copyOf", "([BI)[B"⟩ : MethodName) ∈ cfB := cf_in 1583 (by decide +kernel) rfl
theorem wv_1584 : Cond.code (⟨"java/util/Arrays", "copyOf", "([BI)[B"⟩ : MethodName) prog_34_method_121_code 3 (Option.some (Jvm.ClassFile.FieldType.array Jvm.ClassFile.FieldType.byte)) ∈ cfB := cf_in 1584 (by decide +kernel) rfl
theorem wv_1569 : Cond.methodLink "java/lang/AbstractStringBuilder" 104 (⟨"java/lang/AbstractStringBuilder", "newCapacity", "(I)I"⟩ : MethodName) ∈ cfB := cf_in 1569 (by decide +kernel) rfl
theorem wv_1572 : Cond.code (⟨"java/lang/AbstractStringBuilder", "newCapacity", "(I)I"⟩ : MethodName) prog_15_method_10_code 6 (Option.some Jvm.ClassFile.FieldType.int) ∈ cfB := cf_in 1572 (by decide +kernel) rfl
theorem wv_2791 : Cond.sameMethod "java/lang/AbstractStringBuilder" "java/lang/AbstractStringBuilder" "newCapacity" "(I)I" ∈ cfB := cf_in 2791 (by decide +kernel) rfl
theorem wv_1571 : Cond.instanceMethod (⟨"java/lang/AbstractStringBuilder", "newCapacity", "(I)I"⟩ : MethodName) ∈ cfB := cf_in 1571 (by decide +kernel) rfl
def yAS_isLatin1 : MethodName := ⟨"java/lang/AbstractStringBuilder", "isLatin1", "()Z"⟩
abbrev cAS_isLatin1 : ByteArray := prog_15_method_68_code
theorem dAS_isLatin1_0 : decode cAS_isLatin1 0 = .ok (.getstatic 18, 3) := by decide +kernel
theorem dAS_isLatin1_3 : decode cAS_isLatin1 3 = .ok (.ifCond .eq 14, 3) := by decide +kernel
theorem dAS_isLatin1_6 : decode cAS_isLatin1 6 = .ok (.aload_n 0, 1) := by decide +kernel
theorem dAS_isLatin1_7 : decode cAS_isLatin1 7 = .ok (.getfield 22, 3) := by decide +kernel
theorem dAS_isLatin1_10 : decode cAS_isLatin1 10 = .ok (.ifCond .ne 7, 3) := by decide +kernel
theorem dAS_isLatin1_13 : decode cAS_isLatin1 13 = .ok (.iconst 1, 1) := by decide +kernel
theorem dAS_isLatin1_14 : decode cAS_isLatin1 14 = .ok (.goto 4, 3) := by decide +kernel
theorem dAS_isLatin1_17 : decode cAS_isLatin1 17 = .ok (.iconst 0, 1) := by decide +kernel
theorem dAS_isLatin1_18 : decode cAS_isLatin1 18 = .ok (.ireturn, 1) := by decide +kernel
def yAS_setLength : MethodName := ⟨"java/lang/AbstractStringBuilder", "setLength", "(I)V"⟩
abbrev cAS_setLength : ByteArray := prog_15_method_13_code
theorem dAS_setLength_0 : decode cAS_setLength 0 = .ok (.iload_n 1, 1) := by decide +kernel
theorem dAS_setLength_1 : decode cAS_setLength 1 = .ok (.ifCond .ge 12, 3) := by decide +kernel
theorem dAS_setLength_4 : decode cAS_setLength 4 = .ok (.new 129, 3) := by decide +kernel
theorem dAS_setLength_7 : decode cAS_setLength 7 = .ok (.dup, 1) := by decide +kernel
theorem dAS_setLength_8 : decode cAS_setLength 8 = .ok (.iload_n 1, 1) := by decide +kernel
theorem dAS_setLength_9 : decode cAS_setLength 9 = .ok (.invokespecial 131, 3) := by decide +kernel
theorem dAS_setLength_12 : decode cAS_setLength 12 = .ok (.athrow, 1) := by decide +kernel
theorem dAS_setLength_13 : decode cAS_setLength 13 = .ok (.aload_n 0, 1) := by decide +kernel
theorem dAS_setLength_14 : decode cAS_setLength 14 = .ok (.iload_n 1, 1) := by decide +kernel
theorem dAS_setLength_15 : decode cAS_setLength 15 = .ok (.invokevirtual 100, 3) := by decide +kernel
theorem dAS_setLength_18 : decode cAS_setLength 18 = .ok (.aload_n 0, 1) := by decide +kernel
theorem dAS_setLength_19 : decode cAS_setLength 19 = .ok (.getfield 79, 3) := by decide +kernel
theorem dAS_setLength_22 : decode cAS_setLength 22 = .ok (.iload_n 1, 1) := by decide +kernel
theorem dAS_setLength_23 : decode cAS_setLength 23 = .ok (.if_icmp .ge 40, 3) := by decide +kernel
theorem dAS_setLength_26 : decode cAS_setLength 26 = .ok (.aload_n 0, 1) := by decide +kernel
theorem dAS_setLength_27 : decode cAS_setLength 27 = .ok (.invokevirtual 83, 3) := by decide +kernel
theorem dAS_setLength_30 : decode cAS_setLength 30 = .ok (.ifCond .eq 18, 3) := by decide +kernel
theorem dAS_setLength_33 : decode cAS_setLength 33 = .ok (.aload_n 0, 1) := by decide +kernel
theorem dAS_setLength_34 : decode cAS_setLength 34 = .ok (.getfield 15, 3) := by decide +kernel
theorem dAS_setLength_37 : decode cAS_setLength 37 = .ok (.aload_n 0, 1) := by decide +kernel
theorem dAS_setLength_38 : decode cAS_setLength 38 = .ok (.getfield 79, 3) := by decide +kernel
theorem dAS_setLength_41 : decode cAS_setLength 41 = .ok (.iload_n 1, 1) := by decide +kernel
theorem dAS_setLength_42 : decode cAS_setLength 42 = .ok (.invokestatic 133, 3) := by decide +kernel
theorem dAS_setLength_45 : decode cAS_setLength 45 = .ok (.goto 31, 3) := by decide +kernel
theorem dAS_setLength_48 : decode cAS_setLength 48 = .ok (.aload_n 0, 1) := by decide +kernel
theorem dAS_setLength_49 : decode cAS_setLength 49 = .ok (.getfield 15, 3) := by decide +kernel
theorem dAS_setLength_52 : decode cAS_setLength 52 = .ok (.aload_n 0, 1) := by decide +kernel
theorem dAS_setLength_53 : decode cAS_setLength 53 = .ok (.getfield 79, 3) := by decide +kernel
theorem dAS_setLength_56 : decode cAS_setLength 56 = .ok (.iload_n 1, 1) := by decide +kernel
theorem dAS_setLength_57 : decode cAS_setLength 57 = .ok (.invokestatic 137, 3) := by decide +kernel
theorem dAS_setLength_60 : decode cAS_setLength 60 = .ok (.goto 16, 3) := by decide +kernel
theorem dAS_setLength_63 : decode cAS_setLength 63 = .ok (.aload_n 0, 1) := by decide +kernel
theorem dAS_setLength_64 : decode cAS_setLength 64 = .ok (.getfield 79, 3) := by decide +kernel
theorem dAS_setLength_67 : decode cAS_setLength 67 = .ok (.iload_n 1, 1) := by decide +kernel
theorem dAS_setLength_68 : decode cAS_setLength 68 = .ok (.if_icmp .le 8, 3) := by decide +kernel
theorem dAS_setLength_71 : decode cAS_setLength 71 = .ok (.aload_n 0, 1) := by decide +kernel
theorem dAS_setLength_72 : decode cAS_setLength 72 = .ok (.iconst 1, 1) := by decide +kernel
theorem dAS_setLength_73 : decode cAS_setLength 73 = .ok (.putfield 73, 3) := by decide +kernel
theorem dAS_setLength_76 : decode cAS_setLength 76 = .ok (.aload_n 0, 1) := by decide +kernel
theorem dAS_setLength_77 : decode cAS_setLength 77 = .ok (.iload_n 1, 1) := by decide +kernel
theorem dAS_setLength_78 : decode cAS_setLength 78 = .ok (.putfield 79, 3) := by decide +kernel
theorem dAS_setLength_81 : decode cAS_setLength 81 = .ok (.return_, 1) := by decide +kernel
theorem wv_457 : Cond.fieldLink "java/lang/AbstractStringBuilder" 79 "java/lang/AbstractStringBuilder" "count" "I" ∈ cfB := cf_in 457 (by decide +kernel) rfl
theorem wv_455 : Cond.fieldLink "java/lang/AbstractStringBuilder" 73 "java/lang/AbstractStringBuilder" "maybeLatin1" "Z" ∈ cfB := cf_in 455 (by decide +kernel) rfl
theorem wv_1590 : Cond.methodLink "java/lang/AbstractStringBuilder" 83 (⟨"java/lang/AbstractStringBuilder", "isLatin1", "()Z"⟩ : MethodName) ∈ cfB := cf_in 1590 (by decide +kernel) rfl
theorem wv_1594 : Cond.code (⟨"java/lang/AbstractStringBuilder", "isLatin1", "()Z"⟩ : MethodName) prog_15_method_68_code 1 (Option.some Jvm.ClassFile.FieldType.boolean) ∈ cfB := cf_in 1594 (by decide +kernel) rfl
theorem wv_1593 : Cond.selects "java/lang/StringBuilder" (⟨"java/lang/AbstractStringBuilder", "isLatin1", "()Z"⟩ : MethodName) (⟨"java/lang/AbstractStringBuilder", "isLatin1", "()Z"⟩ : MethodName) ∈ cfB := cf_in 1593 (by decide +kernel) rfl
theorem wv_1592 : Cond.sameMethod "java/lang/AbstractStringBuilder" "java/lang/AbstractStringBuilder" "isLatin1" "()Z" ∈ cfB := cf_in 1592 (by decide +kernel) rfl
theorem wv_1591 : Cond.instanceMethod (⟨"java/lang/AbstractStringBuilder", "isLatin1", "()Z"⟩ : MethodName) ∈ cfB := cf_in 1591 (by decide +kernel) rfl
theorem wv_1565 : Cond.methodLink "java/lang/AbstractStringBuilder" 100 (⟨"java/lang/AbstractStringBuilder", "ensureCapacityInternal", "(I)V"⟩ : MethodName) ∈ cfB := cf_in 1565 (by decide +kernel) rfl
theorem wv_1568 : Cond.code (⟨"java/lang/AbstractStringBuilder", "ensureCapacityInternal", "(I)V"⟩ : MethodName) prog_15_method_9_code 3 (Option.none : Option Jvm.ClassFile.FieldType) ∈ cfB := cf_in 1568 (by decide +kernel) rfl
theorem wv_2790 : Cond.sameMethod "java/lang/AbstractStringBuilder" "java/lang/AbstractStringBuilder" "ensureCapacityInternal" "(I)V" ∈ cfB := cf_in 2790 (by decide +kernel) rfl
theorem wv_1567 : Cond.instanceMethod (⟨"java/lang/AbstractStringBuilder", "ensureCapacityInternal", "(I)V"⟩ : MethodName) ∈ cfB := cf_in 1567 (by decide +kernel) rfl
def ySB_setLength : MethodName := ⟨"java/lang/StringBuilder", "setLength", "(I)V"⟩
abbrev cSB_setLength : ByteArray := prog_27_method_89_code
theorem dSB_setLength_0 : decode cSB_setLength 0 = .ok (.aload_n 0, 1) := by decide +kernel
theorem dSB_setLength_1 : decode cSB_setLength 1 = .ok (.iload_n 1, 1) := by decide +kernel
theorem dSB_setLength_2 : decode cSB_setLength 2 = .ok (.invokespecial 333, 3) := by decide +kernel
theorem dSB_setLength_5 : decode cSB_setLength 5 = .ok (.return_, 1) := by decide +kernel
theorem wv_1543 : Cond.methodLink "java/lang/StringBuilder" 333 (⟨"java/lang/AbstractStringBuilder", "setLength", "(I)V"⟩ : MethodName) ∈ cfB := cf_in 1543 (by decide +kernel) rfl
theorem wv_1545 : Cond.code (⟨"java/lang/AbstractStringBuilder", "setLength", "(I)V"⟩ : MethodName) prog_15_method_13_code 2 (Option.none : Option Jvm.ClassFile.FieldType) ∈ cfB := cf_in 1545 (by decide +kernel) rfl
theorem wv_2787 : Cond.sameMethod "java/lang/AbstractStringBuilder" "java/lang/AbstractStringBuilder" "setLength" "(I)V" ∈ cfB := cf_in 2787 (by decide +kernel) rfl
theorem wv_466 : Cond.superclass "java/lang/StringBuilder" "java/lang/AbstractStringBuilder" ∈ cfB := cf_in 466 (by decide +kernel) rfl
theorem wv_1544 : Cond.instanceMethod (⟨"java/lang/AbstractStringBuilder", "setLength", "(I)V"⟩ : MethodName) ∈ cfB := cf_in 1544 (by decide +kernel) rfl
def yJString_coder_ : MethodName := ⟨"java/lang/String", "coder", "()B"⟩
abbrev cJString_coder_ : ByteArray := prog_26_method_152_code
theorem dJString_coder__0 : decode cJString_coder_ 0 = .ok (.getstatic 38, 3) := by decide +kernel
theorem dJString_coder__3 : decode cJString_coder_ 3 = .ok (.ifCond .eq 10, 3) := by decide +kernel
theorem dJString_coder__6 : decode cJString_coder_ 6 = .ok (.aload_n 0, 1) := by decide +kernel
theorem dJString_coder__7 : decode cJString_coder_ 7 = .ok (.getfield 15, 3) := by decide +kernel
theorem dJString_coder__10 : decode cJString_coder_ 10 = .ok (.goto 4, 3) := by decide +kernel
theorem dJString_coder__13 : decode cJString_coder_ 13 = .ok (.iconst 1, 1) := by decide +kernel
theorem dJString_coder__14 : decode cJString_coder_ 14 = .ok (.ireturn, 1) := by decide +kernel
theorem wv_764 : Cond.fieldLink "java/lang/String" 38 "java/lang/String" "COMPACT_STRINGS" "Z" ∈ cfB := cf_in 764 (by decide +kernel) rfl
theorem wv_1736 : Cond.fieldLink "java/lang/String" 15 "java/lang/String" "coder" "B" ∈ cfB := cf_in 1736 (by decide +kernel) rfl
def yJString_length_ : MethodName := ⟨"java/lang/String", "length", "()I"⟩
abbrev cJString_length_ : ByteArray := prog_26_method_54_code
theorem dJString_length__0 : decode cJString_length_ 0 = .ok (.aload_n 0, 1) := by decide +kernel
theorem dJString_length__1 : decode cJString_length_ 1 = .ok (.getfield 9, 3) := by decide +kernel
theorem dJString_length__4 : decode cJString_length_ 4 = .ok (.arraylength, 1) := by decide +kernel
theorem dJString_length__5 : decode cJString_length_ 5 = .ok (.aload_n 0, 1) := by decide +kernel
theorem dJString_length__6 : decode cJString_length_ 6 = .ok (.invokevirtual 335, 3) := by decide +kernel
theorem dJString_length__9 : decode cJString_length_ 9 = .ok (.ishr, 1) := by decide +kernel
theorem dJString_length__10 : decode cJString_length_ 10 = .ok (.ireturn, 1) := by decide +kernel
theorem wv_1735 : Cond.fieldLink "java/lang/String" 9 "java/lang/String" "value" "[B" ∈ cfB := cf_in 1735 (by decide +kernel) rfl
theorem wv_168 : Cond.initialized "java/lang/String" ∈ cfB := cf_in 168 (by decide +kernel) rfl
theorem wv_760 : Cond.methodLink "java/lang/String" 335 (⟨"java/lang/String", "coder", "()B"⟩ : MethodName) ∈ cfB := cf_in 760 (by decide +kernel) rfl
theorem wv_763 : Cond.code (⟨"java/lang/String", "coder", "()B"⟩ : MethodName) prog_26_method_152_code 1 (Option.some Jvm.ClassFile.FieldType.byte) ∈ cfB := cf_in 763 (by decide +kernel) rfl
theorem wv_761 : Cond.instanceMethod (⟨"java/lang/String", "coder", "()B"⟩ : MethodName) ∈ cfB := cf_in 761 (by decide +kernel) rfl
theorem wv_762 : Cond.selects "java/lang/String" (⟨"java/lang/String", "coder", "()B"⟩ : MethodName) (⟨"java/lang/String", "coder", "()B"⟩ : MethodName) ∈ cfB := cf_in 762 (by decide +kernel) rfl
def yAS_inflateIfNeededFor : MethodName := ⟨"java/lang/AbstractStringBuilder", "inflateIfNeededFor", "(Ljava/lang/String;)V"⟩
abbrev cAS_inflateIfNeededFor : ByteArray := prog_15_method_71_code
theorem dAS_inflateIfNeededFor_0 : decode cAS_inflateIfNeededFor 0 = .ok (.getstatic 18, 3) := by decide +kernel
theorem dAS_inflateIfNeededFor_3 : decode cAS_inflateIfNeededFor 3 = .ok (.ifCond .eq 18, 3) := by decide +kernel
theorem dAS_inflateIfNeededFor_6 : decode cAS_inflateIfNeededFor 6 = .ok (.aload_n 0, 1) := by decide +kernel
theorem dAS_inflateIfNeededFor_7 : decode cAS_inflateIfNeededFor 7 = .ok (.getfield 22, 3) := by decide +kernel
theorem dAS_inflateIfNeededFor_10 : decode cAS_inflateIfNeededFor 10 = .ok (.aload_n 1, 1) := by decide +kernel
theorem dAS_inflateIfNeededFor_11 : decode cAS_inflateIfNeededFor 11 = .ok (.invokevirtual 40, 3) := by decide +kernel
theorem dAS_inflateIfNeededFor_14 : decode cAS_inflateIfNeededFor 14 = .ok (.if_icmp .eq 7, 3) := by decide +kernel
theorem dAS_inflateIfNeededFor_17 : decode cAS_inflateIfNeededFor 17 = .ok (.aload_n 0, 1) := by decide +kernel
theorem dAS_inflateIfNeededFor_18 : decode cAS_inflateIfNeededFor 18 = .ok (.invokevirtual 195, 3) := by decide +kernel
theorem dAS_inflateIfNeededFor_21 : decode cAS_inflateIfNeededFor 21 = .ok (.return_, 1) := by decide +kernel
theorem wv_1619 : Cond.methodLink "java/lang/AbstractStringBuilder" 40 (⟨"java/lang/String", "coder", "()B"⟩ : MethodName) ∈ cfB := cf_in 1619 (by decide +kernel) rfl
set_option maxHeartbeats 4000000 in
set_option maxRecDepth 100000 in
theorem bCo_full_16 {p : Program} {l : Launch} {e : Env} {s : State} {m : MethodId} {below : List Frame} {meth : Method} {c : Code} {AR : Array Value} (C : dc_C p s m AR meth c cCo_full 1 (Option.some Jvm.ClassFile.FieldType.int) yCo_full) (s0 : Int32) (r : Int32) (h : fCo_full_16 s0 = some r) {ls : Array Slot} (hl : lv_has ls 1 []) : W p l e ({ frames := 0, cells := 0, slots := 0, locals := 0 }) s m AR below meth c s.heap [] 0 0 (MQ below (cf_Pi (fun x => x = r)) AR s 0 0 (fun _ => False)) (F0 m 16 ls [.int s0]) := by
  obtain ⟨hx, hb, hr, hts, hown, hlocks, hin, hml⟩ := id C
  obtain rfl := Option.some.inj h
  exact W.iret hx hb hr (fun t ht hW => ⟨_, rfl, rfl, ht⟩) cf_pnil dCo_full_16 hlocks
set_option maxHeartbeats 4000000 in
set_option maxRecDepth 100000 in
theorem bCo_full_0 {p : Program} {l : Launch} {e : Env} {s : State} {m : MethodId} {below : List Frame} {meth : Method} {c : Code} {AR : Array Value} (C : dc_C p s m AR meth c cCo_full 1 (Option.some Jvm.ClassFile.FieldType.int) yCo_full) (v0 : Int32) (r : Int32) (h : fCo_full_0 v0 = some r) {ls : Array Slot} (hl : lv_has ls 1 [(0, .int v0)]) : W p l e ({ frames := 0, cells := 0, slots := 0, locals := 0 }) s m AR below meth c s.heap [] 0 0 (MQ below (cf_Pi (fun x => x = r)) AR s 0 0 (fun _ => False)) (F0 m 0 ls []) := by
  obtain ⟨hx, hb, hr, hts, hown, hlocks, hin, hml⟩ := id C
  refine lv_iload_n hx hb dCo_full_0 rfl (lv_at hl 0 rfl) ?_
  refine lv_iconst (v := 5) hx hb dCo_full_1 (by decide) ?_
  refine lv_icmp_ne (tgt := 9) hx hb dCo_full_2 (by decide) (fun c_1 => ?_) (fun c_1 => ?_)
  · have h := op_f c_1 h
    refine lv_iconst (v := 1) hx hb dCo_full_9 (by decide) ?_
    refine lv_iconst (v := 1) hx hb dCo_full_10 (by decide) ?_
    refine lv_iload_n hx hb dCo_full_11 rfl (lv_at hl 0 rfl) ?_
    refine lv_ishl hx hb dCo_full_12 ?_
    refine lv_topi (fun x_2 ex_2 => ?_)
    have h := op_ks ex_2 h
    refine lv_ishl hx hb dCo_full_13 ?_
    refine lv_topi (fun x_3 ex_3 => ?_)
    have h := op_ks ex_3 h
    refine lv_iconst (v := 1) hx hb dCo_full_14 (by decide) ?_
    refine lv_isub hx hb dCo_full_15 ?_
    refine lv_topi (fun x_4 ex_4 => ?_)
    have h := op_ks ex_4 h
    exact bCo_full_16 C _ _ h (lv_sub hl [] rfl)
  · have h := op_t c_1 h
    refine lv_iconst (v := (-1)) hx hb dCo_full_5 (by decide) ?_
    refine lv_goto (tgt := 16) hx hb dCo_full_6 (by decide) ?_
    exact bCo_full_16 C _ _ h (lv_sub hl [] rfl)
theorem mCo_full (l : Launch) (v0 : Int32) (r : Int32) (h : fCo_full v0 = some r) : Met l yCo_full (Cond.code yCo_full cCo_full 1 (Option.some Jvm.ClassFile.FieldType.int) :: cfB) ({ frames := 0, cells := 0, slots := 0, locals := 0 }) (fun v _ => v = ([.int v0] : List Value).toArray) (cf_Pi (fun x => x = r)) 0 0 (fun _ => False) := by
  refine cf_ofP (y := yCo_full) (As := [.int v0]) (maxL := 1) (cf_Pi (fun x => x = r)) (by decide) (Nat.le_of_ble_eq_true rfl) ?_
  intro p e s m below meth c ls C hl
  exact bCo_full_0 (l := l) C v0 r h hl
set_option maxHeartbeats 4000000 in
set_option maxRecDepth 100000 in
theorem bCo_isBetween_15 {p : Program} {l : Launch} {e : Env} {s : State} {m : MethodId} {below : List Frame} {meth : Method} {c : Code} {A : Nat → Prop} {D : va_G} {K : Nat → ClassId} {h0 : Nat} {a0 : Nat → Nat} {AR : Array Value} (C : (dc_C p s m AR meth c cCo_isBetween 2 (Option.some Jvm.ClassFile.FieldType.boolean) yCo_isBetween ∧ cf_E D K A s s.heap ∧ ∀ q, s.heap.size ≤ q → A q)) (s0 : Int32) (o0 : cf_O) (r : Int32) (h : fCo_isBetween_15 s0 o0 = some r) {H : Heap} {locs : List Loc} {ls : Array Slot} (hP : va_P D vwCl (wCo K h0 a0 o0) H) (hD : va_D A (wCo K h0 a0 o0)) (hS : va_S A s.heap H locs) (hl : lv_has ls 2 []) : W p l e ({ frames := 0, cells := 0, slots := 0, locals := 0 }) s m AR below meth c H locs 0 0 (MQ below (va_Qi (fun (x : Int32) (_ : Unit) => x = r) (fun (_ : Unit) t => cf_At D A (wCo K h0 a0 o0) t) A) AR s 0 0 A) (F0 m 15 ls [.int s0]) := by
  obtain ⟨⟨hx, hb, hr, hts, hown, hlocks, hin, hml⟩, hE, hA⟩ := id C
  have hK := hE.k
  obtain ⟨hz_1, h⟩ := op_w h
  obtain rfl := Option.some.inj h
  exact dc_zret hx hb hr (op_z hz_1) hlocks rfl hP hD hS dCo_isBetween_15
set_option maxHeartbeats 4000000 in
set_option maxRecDepth 100000 in
theorem bCo_isBetween_0 {p : Program} {l : Launch} {e : Env} {s : State} {m : MethodId} {below : List Frame} {meth : Method} {c : Code} {A : Nat → Prop} {D : va_G} {K : Nat → ClassId} {h0 : Nat} {a0 : Nat → Nat} {AR : Array Value} (C : (dc_C p s m AR meth c cCo_isBetween 2 (Option.some Jvm.ClassFile.FieldType.boolean) yCo_isBetween ∧ cf_E D K A s s.heap ∧ ∀ q, s.heap.size ≤ q → A q)) (v1 : Int32) (o0 : cf_O) (r : Int32) (h : fCo_isBetween_0 v1 o0 = some r) {H : Heap} {locs : List Loc} {ls : Array Slot} (hP : va_P D vwCl (wCo K h0 a0 o0) H) (hD : va_D A (wCo K h0 a0 o0)) (hS : va_S A s.heap H locs) (hl : lv_has ls 2 [(0, .ref h0), (1, .int v1)]) : W p l e ({ frames := 0, cells := 0, slots := 0, locals := 0 }) s m AR below meth c H locs 0 0 (MQ below (va_Qi (fun (x : Int32) (_ : Unit) => x = r) (fun (_ : Unit) t => cf_At D A (wCo K h0 a0 o0) t) A) AR s 0 0 A) (F0 m 0 ls []) := by
  obtain ⟨⟨hx, hb, hr, hts, hown, hlocks, hin, hml⟩, hE, hA⟩ := id C
  have hK := hE.k
  refine lv_aload_n hx hb dCo_isBetween_0 rfl (lv_at hl 0 rfl) ?_
  refine va_get (D := D) (ci := 6) (v := .ref (a0 3)) (C := RCo) (T := TCo) (N := 5) hx hb hts inCo hown hK hP 0 rfl rfl 3 (by decide) (hts _ wv_301) (fun _ h9 => h9) rfl dCo_isBetween_1 ?_
  refine lv_iload_n hx hb dCo_isBetween_4 rfl (lv_at hl 1 rfl) ?_
  obtain ⟨hi_1, h⟩ := op_n h
  refine va_iald (D := D) hx hb hK hP 2 0 rfl rfl hi_1 dCo_isBetween_5 ?_
  refine lv_topi (fun x_2 ex_2 => ?_)
  have h := op_ks ex_2 h
  refine lv_iconst (v := 1) hx hb dCo_isBetween_6 (by decide) ?_
  refine lv_icmp_ne (tgt := 14) hx hb dCo_isBetween_7 (by decide) (fun c_3 => ?_) (fun c_3 => ?_)
  · have h := op_f c_3 h
    refine lv_iconst (v := 0) hx hb dCo_isBetween_14 (by decide) ?_
    exact bCo_isBetween_15 C _ _ _ h hP hD hS (lv_sub hl [] rfl)
  · have h := op_t c_3 h
    refine lv_iconst (v := 1) hx hb dCo_isBetween_10 (by decide) ?_
    refine lv_goto (tgt := 15) hx hb dCo_isBetween_11 (by decide) ?_
    exact bCo_isBetween_15 C _ _ _ h hP hD hS (lv_sub hl [] rfl)
set_option maxRecDepth 100000 in
theorem mCo_isBetween (l : Launch) (D : va_G) (K : Nat → ClassId) (sz : Nat) (v1 : Int32) (h0 : Nat) (a0 : Nat → Nat) (o0 : cf_O) (r : Int32) (h : fCo_isBetween v1 o0 = some r) : Met l yCo_isBetween (Cond.code yCo_isBetween cCo_isBetween 2 (Option.some Jvm.ClassFile.FieldType.boolean) :: cfB) ({ frames := 0, cells := 0, slots := 0, locals := 0 }) (va_Pc [.ref h0, .int v1] (cf_Pre D K sz (wCo K h0 a0 o0))) (va_Qi (fun (x : Int32) (_ : Unit) => x = r) (fun (_ : Unit) t => cf_At D (va_A (wCo K h0 a0 o0) sz) (wCo K h0 a0 o0) t) (va_A (wCo K h0 a0 o0) sz)) 0 0 (va_A (wCo K h0 a0 o0) sz) := by
  refine cf_ofW (y := yCo_isBetween) (As := [.ref h0, .int v1]) (WS := wCo K h0 a0 o0) (maxL := 2) (fun A => (va_Qi (fun (x : Int32) (_ : Unit) => x = r) (fun (_ : Unit) t => cf_At D A (wCo K h0 a0 o0) t) A)) (by decide) (Nat.le_of_ble_eq_true rfl) ?_
  intro p e s m below meth c A ls En hsz hA hP hD hE hS hl
  have C : (dc_C p s m (([.ref h0, .int v1] : List Value).toArray) meth c cCo_isBetween 2 (Option.some Jvm.ClassFile.FieldType.boolean) yCo_isBetween ∧ cf_E D K A s s.heap ∧ ∀ q, s.heap.size ≤ q → A q) := ⟨En, hE, hA⟩
  exact bCo_isBetween_0 C v1 o0 r h hP hD hS hl
def IhJArrays_fill_AII_Co3 (p : Program) (l : Launch) (e : Env) (s : State) (m : MethodId) (below : List Frame) (meth : Method) (c : Code) (A : Nat → Prop) (D : va_G) (K : Nat → ClassId) (h0 : Nat) (a0 : Nat → Nat) (AR : Array Value) (n : Nat) : Prop := (∀ (v1 : Int32) (v2 : Int32) (v3 : Int32) (o0 : cf_O) (r : cf_O), gJArrays_fill_AII_Co3 n 0 v1 v2 v3 o0 = some r → ∀ {H : Heap} {locs : List Loc} {ls : Array Slot}, (va_P D vwCl (wCo K h0 a0 o0) H) → (va_D A (wCo K h0 a0 o0)) → va_S A s.heap H locs → lv_has ls 4 [(0, .ref (a0 3)), (1, .int v1), (2, .int v2), (3, .int v3)] → W p l e ({ frames := 0, cells := 0, slots := 0, locals := 0 }) s m AR below meth c H locs 0 0 (MQ below (va_Qv (fun (_ : Unit) => True) (fun (_ : Unit) t => cf_At D A (wCo K h0 a0 r) t) A) AR s 0 0 A) (F0 m 5 ls []))
set_option maxHeartbeats 4000000 in
set_option maxRecDepth 100000 in
theorem bJArrays_fill_AII_Co3_5 {p : Program} {l : Launch} {e : Env} {s : State} {m : MethodId} {below : List Frame} {meth : Method} {c : Code} {A : Nat → Prop} {D : va_G} {K : Nat → ClassId} {h0 : Nat} {a0 : Nat → Nat} {AR : Array Value} (C : (dc_C p s m AR meth c cJArrays_fill_AII 4 (Option.none : Option Jvm.ClassFile.FieldType) yJArrays_fill_AII ∧ cf_E D K A s s.heap ∧ ∀ q, s.heap.size ≤ q → A q)) {n : Nat} (ih : IhJArrays_fill_AII_Co3 p l e s m below meth c A D K h0 a0 AR n) (v1 : Int32) (v2 : Int32) (v3 : Int32) (o0 : cf_O) (r : cf_O) (h : fJArrays_fill_AII_Co3_5 (gJArrays_fill_AII_Co3 n) v1 v2 v3 o0 = some r) {H : Heap} {locs : List Loc} {ls : Array Slot} (hP : va_P D vwCl (wCo K h0 a0 o0) H) (hD : va_D A (wCo K h0 a0 o0)) (hS : va_S A s.heap H locs) (hl : lv_has ls 4 [(0, .ref (a0 3)), (1, .int v1), (2, .int v2), (3, .int v3)]) : W p l e ({ frames := 0, cells := 0, slots := 0, locals := 0 }) s m AR below meth c H locs 0 0 (MQ below (va_Qv (fun (_ : Unit) => True) (fun (_ : Unit) t => cf_At D A (wCo K h0 a0 r) t) A) AR s 0 0 A) (F0 m 5 ls []) := by
  obtain ⟨⟨hx, hb, hr, hts, hown, hlocks, hin, hml⟩, hE, hA⟩ := id C
  have hK := hE.k
  refine lv_iload_n hx hb dJArrays_fill_AII_5 rfl (lv_at hl 2 rfl) ?_
  refine lv_iload_n hx hb dJArrays_fill_AII_6 rfl (lv_at hl 3 rfl) ?_
  refine lv_icmp_ge (tgt := 20) hx hb dJArrays_fill_AII_7 (by decide) (fun c_1 => ?_) (fun c_1 => ?_)
  · have h := op_t c_1 h
    obtain rfl := Option.some.inj h
    exact dc_vret hx hb hr hlocks rfl hP hD hS dJArrays_fill_AII_20
  · have h := op_f c_1 h
    refine lv_aload_n hx hb dJArrays_fill_AII_10 rfl (lv_at hl 0 rfl) ?_
    refine lv_iload_n hx hb dJArrays_fill_AII_11 rfl (lv_at hl 2 rfl) ?_
    refine lv_iload_n hx hb dJArrays_fill_AII_12 rfl (lv_at hl 1 rfl) ?_
    obtain ⟨hi_2, h⟩ := op_n h
    refine va_iast (D := D) hx hb hK hP hD hS 2 0 rfl rfl hi_2 dJArrays_fill_AII_13 (fun H locs hP hD hS => ?_)
    have hP : va_P D vwCl (wCo K h0 a0 (xp o0 3 v2.toNatClampNeg v1)) H := hP
    have hD : va_D A (wCo K h0 a0 (xp o0 3 v2.toNatClampNeg v1)) := hD
    obtain ⟨o_3, eo_3, h⟩ := op_kx h
    rw [← eo_3] at hP hD
    obtain ⟨x_4, ex_4⟩ : ∃ y : Int32, y = v2 + 1 := ⟨_, rfl⟩
    refine lv_iinc (v := x_4) (lv' := [(2, .int x_4), (0, .ref (a0 3)), (1, .int v1), (3, .int v3)]) hx hb dJArrays_fill_AII_14 hl (k := 2) rfl (by rw [ex_4]; rfl) (by decide) rfl (fun ls hl => ?_)
    have h := op_ks ex_4 h
    refine lv_goto (tgt := 5) hx hb dJArrays_fill_AII_17 (by decide) ?_
    exact (ih) _ _ _ _ _ h hP hD hS (lv_sub hl [1, 2, 0, 3] rfl)
set_option maxHeartbeats 4000000 in
set_option maxRecDepth 100000 in
theorem bJArrays_fill_AII_Co3_0 {p : Program} {l : Launch} {e : Env} {s : State} {m : MethodId} {below : List Frame} {meth : Method} {c : Code} {A : Nat → Prop} {D : va_G} {K : Nat → ClassId} {h0 : Nat} {a0 : Nat → Nat} {AR : Array Value} (C : (dc_C p s m AR meth c cJArrays_fill_AII 4 (Option.none : Option Jvm.ClassFile.FieldType) yJArrays_fill_AII ∧ cf_E D K A s s.heap ∧ ∀ q, s.heap.size ≤ q → A q)) {n : Nat} (ih : IhJArrays_fill_AII_Co3 p l e s m below meth c A D K h0 a0 AR n) (v1 : Int32) (o0 : cf_O) (r : cf_O) (h : fJArrays_fill_AII_Co3_0 (gJArrays_fill_AII_Co3 n) v1 o0 = some r) {H : Heap} {locs : List Loc} {ls : Array Slot} (hP : va_P D vwCl (wCo K h0 a0 o0) H) (hD : va_D A (wCo K h0 a0 o0)) (hS : va_S A s.heap H locs) (hl : lv_has ls 4 [(0, .ref (a0 3)), (1, .int v1)]) : W p l e ({ frames := 0, cells := 0, slots := 0, locals := 0 }) s m AR below meth c H locs 0 0 (MQ below (va_Qv (fun (_ : Unit) => True) (fun (_ : Unit) t => cf_At D A (wCo K h0 a0 r) t) A) AR s 0 0 A) (F0 m 0 ls []) := by
  obtain ⟨⟨hx, hb, hr, hts, hown, hlocks, hin, hml⟩, hE, hA⟩ := id C
  have hK := hE.k
  refine lv_iconst (v := 0) hx hb dJArrays_fill_AII_0 (by decide) ?_
  refine lv_istore_n (lv' := [(2, .int 0), (0, .ref (a0 3)), (1, .int v1)]) hx hb dJArrays_fill_AII_1 rfl hl (by decide) rfl (fun ls hl => ?_)
  refine lv_aload_n hx hb dJArrays_fill_AII_2 rfl (lv_at hl 1 rfl) ?_
  refine va_alen (D := D) (v := 209) hx hb hK hP 2 0 rfl rfl rfl dJArrays_fill_AII_3 ?_
  refine lv_istore_n (lv' := [(3, .int 209), (2, .int 0), (0, .ref (a0 3)), (1, .int v1)]) hx hb dJArrays_fill_AII_4 rfl hl (by decide) rfl (fun ls hl => ?_)
  exact (ih) _ _ _ _ _ h hP hD hS (lv_sub hl [2, 3, 1, 0] rfl)
theorem iJArrays_fill_AII_Co3 {p : Program} {l : Launch} {e : Env} {s : State} {m : MethodId} {below : List Frame} {meth : Method} {c : Code} {A : Nat → Prop} {D : va_G} {K : Nat → ClassId} {h0 : Nat} {a0 : Nat → Nat} {AR : Array Value} (C : (dc_C p s m AR meth c cJArrays_fill_AII 4 (Option.none : Option Jvm.ClassFile.FieldType) yJArrays_fill_AII ∧ cf_E D K A s s.heap ∧ ∀ q, s.heap.size ≤ q → A q)) : ∀ n, IhJArrays_fill_AII_Co3 p l e s m below meth c A D K h0 a0 AR n := by
  intro n
  induction n with
  | zero => exact (fun _ _ _ _ r h => by cases (show none = some r from h))
  | succ n ih => exact fun x0 x1 x2 x3 r h _ _ _ hP hD hS hl => bJArrays_fill_AII_Co3_5 C ih x0 x1 x2 x3 r h hP hD hS hl
set_option maxRecDepth 100000 in
theorem mJArrays_fill_AII_Co3 (l : Launch) (D : va_G) (K : Nat → ClassId) (sz : Nat) (v1 : Int32) (h0 : Nat) (a0 : Nat → Nat) (o0 : cf_O) (r : cf_O) (h : fJArrays_fill_AII_Co3 v1 o0 = some r) : Met l yJArrays_fill_AII (Cond.code yJArrays_fill_AII cJArrays_fill_AII 4 (Option.none : Option Jvm.ClassFile.FieldType) :: cfB) ({ frames := 0, cells := 0, slots := 0, locals := 0 }) (va_Pc [.ref (a0 3), .int v1] (cf_Pre D K sz (wCo K h0 a0 o0))) (va_Qv (fun (_ : Unit) => True) (fun (_ : Unit) t => cf_At D (va_A (wCo K h0 a0 o0) sz) (wCo K h0 a0 r) t) (va_A (wCo K h0 a0 o0) sz)) 0 0 (va_A (wCo K h0 a0 o0) sz) := by
  refine cf_ofW (y := yJArrays_fill_AII) (As := [.ref (a0 3), .int v1]) (WS := wCo K h0 a0 o0) (maxL := 4) (fun A => (va_Qv (fun (_ : Unit) => True) (fun (_ : Unit) t => cf_At D A (wCo K h0 a0 r) t) A)) (by decide) (Nat.le_of_ble_eq_true rfl) ?_
  intro p e s m below meth c A ls En hsz hA hP hD hE hS hl
  have C : (dc_C p s m (([.ref (a0 3), .int v1] : List Value).toArray) meth c cJArrays_fill_AII 4 (Option.none : Option Jvm.ClassFile.FieldType) yJArrays_fill_AII ∧ cf_E D K A s s.heap ∧ ∀ q, s.heap.size ≤ q → A q) := ⟨En, hE, hA⟩
  exact bJArrays_fill_AII_Co3_0 C (iJArrays_fill_AII_Co3 C cfFU) v1 o0 r h hP hD hS hl
set_option maxHeartbeats 4000000 in
set_option maxRecDepth 100000 in
theorem bJInteger_numberOfLeadingZeros_I_73 {p : Program} {l : Launch} {e : Env} {s : State} {m : MethodId} {below : List Frame} {meth : Method} {c : Code} {AR : Array Value} (C : dc_C p s m AR meth c cJInteger_numberOfLeadingZeros_I 2 (Option.some Jvm.ClassFile.FieldType.int) yJInteger_numberOfLeadingZeros_I) (v0 : Int32) (v1 : Int32) (r : Int32) (h : fJInteger_numberOfLeadingZeros_I_73 v0 v1 = some r) {ls : Array Slot} (hl : lv_has ls 2 [(0, .int v0), (1, .int v1)]) : W p l e ({ frames := 0, cells := 0, slots := 0, locals := 0 }) s m AR below meth c s.heap [] 0 0 (MQ below (cf_Pi (fun x => x = r)) AR s 0 0 (fun _ => False)) (F0 m 73 ls []) := by
  obtain ⟨hx, hb, hr, hts, hown, hlocks, hin, hml⟩ := id C
  refine lv_iload_n hx hb dJInteger_numberOfLeadingZeros_I_73 rfl (lv_at hl 1 rfl) ?_
  refine lv_iload_n hx hb dJInteger_numberOfLeadingZeros_I_74 rfl (lv_at hl 0 rfl) ?_
  refine lv_iconst (v := 1) hx hb dJInteger_numberOfLeadingZeros_I_75 (by decide) ?_
  refine lv_iushr hx hb dJInteger_numberOfLeadingZeros_I_76 rfl ?_
  refine lv_topi (fun x_1 ex_1 => ?_)
  have h := op_ks ex_1 h
  refine lv_isub hx hb dJInteger_numberOfLeadingZeros_I_77 ?_
  refine lv_topi (fun x_2 ex_2 => ?_)
  have h := op_ks ex_2 h
  obtain rfl := Option.some.inj h
  exact W.iret hx hb hr (fun t ht hW => ⟨_, rfl, rfl, ht⟩) cf_pnil dJInteger_numberOfLeadingZeros_I_78 hlocks
set_option maxHeartbeats 4000000 in
set_option maxRecDepth 100000 in
theorem bJInteger_numberOfLeadingZeros_I_61 {p : Program} {l : Launch} {e : Env} {s : State} {m : MethodId} {below : List Frame} {meth : Method} {c : Code} {AR : Array Value} (C : dc_C p s m AR meth c cJInteger_numberOfLeadingZeros_I 2 (Option.some Jvm.ClassFile.FieldType.int) yJInteger_numberOfLeadingZeros_I) (v0 : Int32) (v1 : Int32) (r : Int32) (h : fJInteger_numberOfLeadingZeros_I_61 v0 v1 = some r) {ls : Array Slot} (hl : lv_has ls 2 [(0, .int v0), (1, .int v1)]) : W p l e ({ frames := 0, cells := 0, slots := 0, locals := 0 }) s m AR below meth c s.heap [] 0 0 (MQ below (cf_Pi (fun x => x = r)) AR s 0 0 (fun _ => False)) (F0 m 61 ls []) := by
  obtain ⟨hx, hb, hr, hts, hown, hlocks, hin, hml⟩ := id C
  refine lv_iload_n hx hb dJInteger_numberOfLeadingZeros_I_61 rfl (lv_at hl 0 rfl) ?_
  refine lv_iconst (v := 4) hx hb dJInteger_numberOfLeadingZeros_I_62 (by decide) ?_
  refine lv_icmp_lt (tgt := 73) hx hb dJInteger_numberOfLeadingZeros_I_63 (by decide) (fun c_1 => ?_) (fun c_1 => ?_)
  · have h := op_t c_1 h
    exact bJInteger_numberOfLeadingZeros_I_73 C _ _ _ h (lv_sub hl [0, 1] rfl)
  · have h := op_f c_1 h
    obtain ⟨x_2, ex_2⟩ : ∃ y : Int32, y = v1 + (-2) := ⟨_, rfl⟩
    refine lv_iinc (v := x_2) (lv' := [(1, .int x_2), (0, .int v0)]) hx hb dJInteger_numberOfLeadingZeros_I_66 hl (k := 1) rfl (by rw [ex_2]; rfl) (by decide) rfl (fun ls hl => ?_)
    have h := op_ks ex_2 h
    refine lv_iload_n hx hb dJInteger_numberOfLeadingZeros_I_69 rfl (lv_at hl 1 rfl) ?_
    refine lv_iconst (v := 2) hx hb dJInteger_numberOfLeadingZeros_I_70 (by decide) ?_
    refine lv_iushr hx hb dJInteger_numberOfLeadingZeros_I_71 rfl ?_
    refine lv_topi (fun x_3 ex_3 => ?_)
    have h := op_ks ex_3 h
    refine lv_istore_n (lv' := [(0, .int x_3), (1, .int x_2)]) hx hb dJInteger_numberOfLeadingZeros_I_72 rfl hl (by decide) rfl (fun ls hl => ?_)
    exact bJInteger_numberOfLeadingZeros_I_73 C _ _ _ h (lv_sub hl [0, 1] rfl)
set_option maxHeartbeats 4000000 in
set_option maxRecDepth 100000 in
theorem bJInteger_numberOfLeadingZeros_I_48 {p : Program} {l : Launch} {e : Env} {s : State} {m : MethodId} {below : List Frame} {meth : Method} {c : Code} {AR : Array Value} (C : dc_C p s m AR meth c cJInteger_numberOfLeadingZeros_I 2 (Option.some Jvm.ClassFile.FieldType.int) yJInteger_numberOfLeadingZeros_I) (v0 : Int32) (v1 : Int32) (r : Int32) (h : fJInteger_numberOfLeadingZeros_I_48 v0 v1 = some r) {ls : Array Slot} (hl : lv_has ls 2 [(0, .int v0), (1, .int v1)]) : W p l e ({ frames := 0, cells := 0, slots := 0, locals := 0 }) s m AR below meth c s.heap [] 0 0 (MQ below (cf_Pi (fun x => x = r)) AR s 0 0 (fun _ => False)) (F0 m 48 ls []) := by
  obtain ⟨hx, hb, hr, hts, hown, hlocks, hin, hml⟩ := id C
  refine lv_iload_n hx hb dJInteger_numberOfLeadingZeros_I_48 rfl (lv_at hl 0 rfl) ?_
  refine lv_bipush (v := 16) hx hb dJInteger_numberOfLeadingZeros_I_49 (by decide) ?_
  refine lv_icmp_lt (tgt := 61) hx hb dJInteger_numberOfLeadingZeros_I_51 (by decide) (fun c_1 => ?_) (fun c_1 => ?_)
  · have h := op_t c_1 h
    exact bJInteger_numberOfLeadingZeros_I_61 C _ _ _ h (lv_sub hl [0, 1] rfl)
  · have h := op_f c_1 h
    obtain ⟨x_2, ex_2⟩ : ∃ y : Int32, y = v1 + (-4) := ⟨_, rfl⟩
    refine lv_iinc (v := x_2) (lv' := [(1, .int x_2), (0, .int v0)]) hx hb dJInteger_numberOfLeadingZeros_I_54 hl (k := 1) rfl (by rw [ex_2]; rfl) (by decide) rfl (fun ls hl => ?_)
    have h := op_ks ex_2 h
    refine lv_iload_n hx hb dJInteger_numberOfLeadingZeros_I_57 rfl (lv_at hl 1 rfl) ?_
    refine lv_iconst (v := 4) hx hb dJInteger_numberOfLeadingZeros_I_58 (by decide) ?_
    refine lv_iushr hx hb dJInteger_numberOfLeadingZeros_I_59 rfl ?_
    refine lv_topi (fun x_3 ex_3 => ?_)
    have h := op_ks ex_3 h
    refine lv_istore_n (lv' := [(0, .int x_3), (1, .int x_2)]) hx hb dJInteger_numberOfLeadingZeros_I_60 rfl hl (by decide) rfl (fun ls hl => ?_)
    exact bJInteger_numberOfLeadingZeros_I_61 C _ _ _ h (lv_sub hl [0, 1] rfl)
set_option maxHeartbeats 4000000 in
set_option maxRecDepth 100000 in
theorem bJInteger_numberOfLeadingZeros_I_33 {p : Program} {l : Launch} {e : Env} {s : State} {m : MethodId} {below : List Frame} {meth : Method} {c : Code} {AR : Array Value} (C : dc_C p s m AR meth c cJInteger_numberOfLeadingZeros_I 2 (Option.some Jvm.ClassFile.FieldType.int) yJInteger_numberOfLeadingZeros_I) (v0 : Int32) (v1 : Int32) (r : Int32) (h : fJInteger_numberOfLeadingZeros_I_33 v0 v1 = some r) {ls : Array Slot} (hl : lv_has ls 2 [(0, .int v0), (1, .int v1)]) : W p l e ({ frames := 0, cells := 0, slots := 0, locals := 0 }) s m AR below meth c s.heap [] 0 0 (MQ below (cf_Pi (fun x => x = r)) AR s 0 0 (fun _ => False)) (F0 m 33 ls []) := by
  obtain ⟨hx, hb, hr, hts, hown, hlocks, hin, hml⟩ := id C
  refine lv_iload_n hx hb dJInteger_numberOfLeadingZeros_I_33 rfl (lv_at hl 0 rfl) ?_
  refine lv_sipush (v := 256) hx hb dJInteger_numberOfLeadingZeros_I_34 (by decide) ?_
  refine lv_icmp_lt (tgt := 48) hx hb dJInteger_numberOfLeadingZeros_I_37 (by decide) (fun c_1 => ?_) (fun c_1 => ?_)
  · have h := op_t c_1 h
    exact bJInteger_numberOfLeadingZeros_I_48 C _ _ _ h (lv_sub hl [0, 1] rfl)
  · have h := op_f c_1 h
    obtain ⟨x_2, ex_2⟩ : ∃ y : Int32, y = v1 + (-8) := ⟨_, rfl⟩
    refine lv_iinc (v := x_2) (lv' := [(1, .int x_2), (0, .int v0)]) hx hb dJInteger_numberOfLeadingZeros_I_40 hl (k := 1) rfl (by rw [ex_2]; rfl) (by decide) rfl (fun ls hl => ?_)
    have h := op_ks ex_2 h
    refine lv_iload_n hx hb dJInteger_numberOfLeadingZeros_I_43 rfl (lv_at hl 1 rfl) ?_
    refine lv_bipush (v := 8) hx hb dJInteger_numberOfLeadingZeros_I_44 (by decide) ?_
    refine lv_iushr hx hb dJInteger_numberOfLeadingZeros_I_46 rfl ?_
    refine lv_topi (fun x_3 ex_3 => ?_)
    have h := op_ks ex_3 h
    refine lv_istore_n (lv' := [(0, .int x_3), (1, .int x_2)]) hx hb dJInteger_numberOfLeadingZeros_I_47 rfl hl (by decide) rfl (fun ls hl => ?_)
    exact bJInteger_numberOfLeadingZeros_I_48 C _ _ _ h (lv_sub hl [0, 1] rfl)
set_option maxHeartbeats 4000000 in
set_option maxRecDepth 100000 in
theorem bJInteger_numberOfLeadingZeros_I_14 {p : Program} {l : Launch} {e : Env} {s : State} {m : MethodId} {below : List Frame} {meth : Method} {c : Code} {AR : Array Value} (C : dc_C p s m AR meth c cJInteger_numberOfLeadingZeros_I 2 (Option.some Jvm.ClassFile.FieldType.int) yJInteger_numberOfLeadingZeros_I) (s0 : Int32) (r : Int32) (h : fJInteger_numberOfLeadingZeros_I_14 s0 = some r) {ls : Array Slot} (hl : lv_has ls 2 []) : W p l e ({ frames := 0, cells := 0, slots := 0, locals := 0 }) s m AR below meth c s.heap [] 0 0 (MQ below (cf_Pi (fun x => x = r)) AR s 0 0 (fun _ => False)) (F0 m 14 ls [.int s0]) := by
  obtain ⟨hx, hb, hr, hts, hown, hlocks, hin, hml⟩ := id C
  obtain rfl := Option.some.inj h
  exact W.iret hx hb hr (fun t ht hW => ⟨_, rfl, rfl, ht⟩) cf_pnil dJInteger_numberOfLeadingZeros_I_14 hlocks
set_option maxHeartbeats 4000000 in
set_option maxRecDepth 100000 in
theorem bJInteger_numberOfLeadingZeros_I_0 {p : Program} {l : Launch} {e : Env} {s : State} {m : MethodId} {below : List Frame} {meth : Method} {c : Code} {AR : Array Value} (C : dc_C p s m AR meth c cJInteger_numberOfLeadingZeros_I 2 (Option.some Jvm.ClassFile.FieldType.int) yJInteger_numberOfLeadingZeros_I) (v0 : Int32) (r : Int32) (h : fJInteger_numberOfLeadingZeros_I_0 v0 = some r) {ls : Array Slot} (hl : lv_has ls 2 [(0, .int v0)]) : W p l e ({ frames := 0, cells := 0, slots := 0, locals := 0 }) s m AR below meth c s.heap [] 0 0 (MQ below (cf_Pi (fun x => x = r)) AR s 0 0 (fun _ => False)) (F0 m 0 ls []) := by
  obtain ⟨hx, hb, hr, hts, hown, hlocks, hin, hml⟩ := id C
  refine lv_iload_n hx hb dJInteger_numberOfLeadingZeros_I_0 rfl (lv_at hl 0 rfl) ?_
  refine lv_if_gt (tgt := 15) hx hb dJInteger_numberOfLeadingZeros_I_1 (by decide) (fun c_1 => ?_) (fun c_1 => ?_)
  · have h := op_t c_1 h
    refine lv_bipush (v := 31) hx hb dJInteger_numberOfLeadingZeros_I_15 (by decide) ?_
    refine lv_istore_n (lv' := [(1, .int 31), (0, .int v0)]) hx hb dJInteger_numberOfLeadingZeros_I_17 rfl hl (by decide) rfl (fun ls hl => ?_)
    refine lv_iload_n hx hb dJInteger_numberOfLeadingZeros_I_18 rfl (lv_at hl 1 rfl) ?_
    refine lv_ldcw (v := 65536) hx hb hown (hts _ wv_1261) dJInteger_numberOfLeadingZeros_I_19 ?_
    refine lv_icmp_lt (tgt := 33) hx hb dJInteger_numberOfLeadingZeros_I_22 (by decide) (fun c_2 => ?_) (fun c_2 => ?_)
    · have h := op_t c_2 h
      exact bJInteger_numberOfLeadingZeros_I_33 C _ _ _ h (lv_sub hl [1, 0] rfl)
    · have h := op_f c_2 h
      refine lv_iinc (v := 15) (lv' := [(1, .int 15), (0, .int v0)]) hx hb dJInteger_numberOfLeadingZeros_I_25 hl (k := 0) rfl (by decide) (by decide) rfl (fun ls hl => ?_)
      refine lv_iload_n hx hb dJInteger_numberOfLeadingZeros_I_28 rfl (lv_at hl 1 rfl) ?_
      refine lv_bipush (v := 16) hx hb dJInteger_numberOfLeadingZeros_I_29 (by decide) ?_
      refine lv_iushr hx hb dJInteger_numberOfLeadingZeros_I_31 rfl ?_
      refine lv_topi (fun x_3 ex_3 => ?_)
      have h := op_ks ex_3 h
      refine lv_istore_n (lv' := [(0, .int x_3), (1, .int 15)]) hx hb dJInteger_numberOfLeadingZeros_I_32 rfl hl (by decide) rfl (fun ls hl => ?_)
      exact bJInteger_numberOfLeadingZeros_I_33 C _ _ _ h (lv_sub hl [0, 1] rfl)
  · have h := op_f c_1 h
    refine lv_iload_n hx hb dJInteger_numberOfLeadingZeros_I_4 rfl (lv_at hl 0 rfl) ?_
    refine lv_if_ne (tgt := 13) hx hb dJInteger_numberOfLeadingZeros_I_5 (by decide) (fun c_4 => ?_) (fun c_4 => ?_)
    · have h := op_f c_4 h
      refine lv_iconst (v := 0) hx hb dJInteger_numberOfLeadingZeros_I_13 (by decide) ?_
      exact bJInteger_numberOfLeadingZeros_I_14 C _ _ h (lv_sub hl [] rfl)
    · have h := op_t c_4 h
      refine lv_bipush (v := 32) hx hb dJInteger_numberOfLeadingZeros_I_8 (by decide) ?_
      refine lv_goto (tgt := 14) hx hb dJInteger_numberOfLeadingZeros_I_10 (by decide) ?_
      exact bJInteger_numberOfLeadingZeros_I_14 C _ _ h (lv_sub hl [] rfl)
theorem mJInteger_numberOfLeadingZeros_I (l : Launch) (v0 : Int32) (r : Int32) (h : fJInteger_numberOfLeadingZeros_I v0 = some r) : Met l yJInteger_numberOfLeadingZeros_I (Cond.code yJInteger_numberOfLeadingZeros_I cJInteger_numberOfLeadingZeros_I 2 (Option.some Jvm.ClassFile.FieldType.int) :: cfB) ({ frames := 0, cells := 0, slots := 0, locals := 0 }) (fun v _ => v = ([.int v0] : List Value).toArray) (cf_Pi (fun x => x = r)) 0 0 (fun _ => False) := by
  refine cf_ofP (y := yJInteger_numberOfLeadingZeros_I) (As := [.int v0]) (maxL := 2) (cf_Pi (fun x => x = r)) (by decide) (Nat.le_of_ble_eq_true rfl) ?_
  intro p e s m below meth c ls C hl
  exact bJInteger_numberOfLeadingZeros_I_0 (l := l) C v0 r h hl
set_option maxHeartbeats 4000000 in
set_option maxRecDepth 100000 in
theorem bJLong_numberOfLeadingZeros_J_25 {p : Program} {l : Launch} {e : Env} {s : State} {m : MethodId} {below : List Frame} {meth : Method} {c : Code} {AR : Array Value} (C : dc_C p s m AR meth c cJLong_numberOfLeadingZeros_J 3 (Option.some Jvm.ClassFile.FieldType.int) yJLong_numberOfLeadingZeros_J) (s0 : Int32) (r : Int32) (h : fJLong_numberOfLeadingZeros_J_25 s0 = some r) {ls : Array Slot} (hl : lv_has ls 3 []) : W p l e ({ frames := 1, cells := 0, slots := 0, locals := 21 }) s m AR below meth c s.heap [] 0 0 (MQ below (cf_Pi (fun x => x = r)) AR s 0 0 (fun _ => False)) (F0 m 25 ls [.int s0]) := by
  obtain ⟨hx, hb, hr, hts, hown, hlocks, hin, hml⟩ := id C
  obtain rfl := Option.some.inj h
  exact W.iret hx hb hr (fun t ht hW => ⟨_, rfl, rfl, ht⟩) cf_pnil dJLong_numberOfLeadingZeros_J_25 hlocks
set_option maxHeartbeats 4000000 in
set_option maxRecDepth 100000 in
theorem bJLong_numberOfLeadingZeros_J_0 {p : Program} {l : Launch} {e : Env} {s : State} {m : MethodId} {below : List Frame} {meth : Method} {c : Code} {AR : Array Value} (C : dc_C p s m AR meth c cJLong_numberOfLeadingZeros_J 3 (Option.some Jvm.ClassFile.FieldType.int) yJLong_numberOfLeadingZeros_J) (v0 : Int64) (r : Int32) (h : fJLong_numberOfLeadingZeros_J_0 v0 = some r) {ls : Array Slot} (hl : lv_has ls 3 [(0, .long v0)]) : W p l e ({ frames := 1, cells := 0, slots := 0, locals := 21 }) s m AR below meth c s.heap [] 0 0 (MQ below (cf_Pi (fun x => x = r)) AR s 0 0 (fun _ => False)) (F0 m 0 ls []) := by
  obtain ⟨hx, hb, hr, hts, hown, hlocks, hin, hml⟩ := id C
  refine lv_lload_n hx hb dJLong_numberOfLeadingZeros_J_0 rfl (lv_at hl 0 rfl) ?_
  refine lv_bipush (v := 32) hx hb dJLong_numberOfLeadingZeros_J_1 (by decide) ?_
  refine lv_lushr hx hb dJLong_numberOfLeadingZeros_J_3 rfl ?_
  refine lv_topl (fun x_1 ex_1 => ?_)
  have h := op_ks ex_1 h
  refine lv_l2i hx hb dJLong_numberOfLeadingZeros_J_4 rfl ?_
  refine lv_topi (fun x_2 ex_2 => ?_)
  have h := op_ks ex_2 h
  refine lv_istore_n (lv' := [(2, .int x_2), (0, .long v0)]) hx hb dJLong_numberOfLeadingZeros_J_5 rfl hl (by decide) rfl (fun ls hl => ?_)
  refine lv_iload_n hx hb dJLong_numberOfLeadingZeros_J_6 rfl (lv_at hl 0 rfl) ?_
  refine lv_if_ne (tgt := 21) hx hb dJLong_numberOfLeadingZeros_J_7 (by decide) (fun c_3 => ?_) (fun c_3 => ?_)
  · have h := op_f c_3 h
    refine lv_iload_n hx hb dJLong_numberOfLeadingZeros_J_21 rfl (lv_at hl 0 rfl) ?_
    obtain ⟨q_4, hq_4, h⟩ := op_b h
    refine cf_pcalli (va_runS (As := [.int x_2]) (rest := []) ⟨hx, hb, hml, hown, hts⟩ (mJInteger_numberOfLeadingZeros_I l x_2 _ hq_4) (va_cwS 1 hts (cf_GS wv_1364 wv_1365 wv_186 wv_1366) rfl rfl rfl (by decide +kernel) ⟨Nat.le_of_ble_eq_true rfl, Nat.le_of_ble_eq_true rfl⟩) preEq rfl rfl hl.1 rfl (lv_room (Nat.le_of_ble_eq_true rfl)) dJLong_numberOfLeadingZeros_J_22 ⟨Nat.le_of_ble_eq_true rfl, Nat.le_of_ble_eq_true rfl⟩) (fun r_5 hw_6 => ?_)
    subst r_5
    exact bJLong_numberOfLeadingZeros_J_25 C _ _ h (lv_sub hl [] rfl)
  · have h := op_t c_3 h
    refine lv_bipush (v := 32) hx hb dJLong_numberOfLeadingZeros_J_10 (by decide) ?_
    refine lv_lload_n hx hb dJLong_numberOfLeadingZeros_J_12 rfl (lv_at hl 1 rfl) ?_
    refine lv_l2i hx hb dJLong_numberOfLeadingZeros_J_13 rfl ?_
    refine lv_topi (fun x_7 ex_7 => ?_)
    have h := op_ks ex_7 h
    obtain ⟨q_8, hq_8, h⟩ := op_b h
    refine cf_pcalli (va_runS (As := [.int x_7]) (rest := [.int 32]) ⟨hx, hb, hml, hown, hts⟩ (mJInteger_numberOfLeadingZeros_I l x_7 _ hq_8) (va_cwS 1 hts (cf_GS wv_1364 wv_1365 wv_186 wv_1366) rfl rfl rfl (by decide +kernel) ⟨Nat.le_of_ble_eq_true rfl, Nat.le_of_ble_eq_true rfl⟩) preEq rfl rfl hl.1 rfl (lv_room (Nat.le_of_ble_eq_true rfl)) dJLong_numberOfLeadingZeros_J_14 ⟨Nat.le_of_ble_eq_true rfl, Nat.le_of_ble_eq_true rfl⟩) (fun r_9 hw_10 => ?_)
    subst r_9
    refine lv_iadd hx hb dJLong_numberOfLeadingZeros_J_17 ?_
    refine lv_topi (fun x_11 ex_11 => ?_)
    have h := op_ks ex_11 h
    refine lv_goto (tgt := 25) hx hb dJLong_numberOfLeadingZeros_J_18 (by decide) ?_
    exact bJLong_numberOfLeadingZeros_J_25 C _ _ h (lv_sub hl [] rfl)
theorem mJLong_numberOfLeadingZeros_J (l : Launch) (v0 : Int64) (r : Int32) (h : fJLong_numberOfLeadingZeros_J v0 = some r) : Met l yJLong_numberOfLeadingZeros_J (Cond.code yJLong_numberOfLeadingZeros_J cJLong_numberOfLeadingZeros_J 3 (Option.some Jvm.ClassFile.FieldType.int) :: cfB) ({ frames := 1, cells := 0, slots := 0, locals := 21 }) (fun v _ => v = ([.long v0] : List Value).toArray) (cf_Pi (fun x => x = r)) 0 0 (fun _ => False) := by
  refine cf_ofP (y := yJLong_numberOfLeadingZeros_J) (As := [.long v0]) (maxL := 3) (cf_Pi (fun x => x = r)) (by decide) (Nat.le_of_ble_eq_true rfl) ?_
  intro p e s m below meth c ls C hl
  exact bJLong_numberOfLeadingZeros_J_0 (l := l) C v0 r h hl
set_option maxHeartbeats 4000000 in
set_option maxRecDepth 100000 in
theorem bCu_sizeOf_0 {p : Program} {l : Launch} {e : Env} {s : State} {m : MethodId} {below : List Frame} {meth : Method} {c : Code} {AR : Array Value} (C : dc_C p s m AR meth c cCu_sizeOf 2 (Option.some Jvm.ClassFile.FieldType.int) yCu_sizeOf) (v0 : Int64) (r : Int32) (h : fCu_sizeOf_0 v0 = some r) {ls : Array Slot} (hl : lv_has ls 2 [(0, .long v0)]) : W p l e ({ frames := 2, cells := 0, slots := 0, locals := 43 }) s m AR below meth c s.heap [] 0 0 (MQ below (cf_Pi (fun x => x = r)) AR s 0 0 (fun _ => False)) (F0 m 0 ls []) := by
  obtain ⟨hx, hb, hr, hts, hown, hlocks, hin, hml⟩ := id C
  refine lv_bipush (v := 8) hx hb dCu_sizeOf_0 (by decide) ?_
  refine lv_lload_n hx hb dCu_sizeOf_2 rfl (lv_at hl 0 rfl) ?_
  obtain ⟨q_1, hq_1, h⟩ := op_b h
  refine cf_pcalli (va_runS (As := [.long v0]) (rest := [.int 8]) ⟨hx, hb, hml, hown, hts⟩ (mJLong_numberOfLeadingZeros_J l v0 _ hq_1) (va_cwS 1 hts (cf_GS wv_1361 wv_1362 wv_185 wv_1363) rfl rfl rfl (by decide +kernel) ⟨Nat.le_of_ble_eq_true rfl, Nat.le_of_ble_eq_true rfl⟩) preEq rfl rfl hl.1 rfl (lv_room (Nat.le_of_ble_eq_true rfl)) dCu_sizeOf_3 ⟨Nat.le_of_ble_eq_true rfl, Nat.le_of_ble_eq_true rfl⟩) (fun r_2 hw_3 => ?_)
  subst r_2
  refine lv_bipush (v := 8) hx hb dCu_sizeOf_6 (by decide) ?_
  refine lv_idiv hx hb dCu_sizeOf_8 (by decide) ?_
  refine lv_topi (fun x_4 ex_4 => ?_)
  have h := op_ks ex_4 h
  refine lv_isub hx hb dCu_sizeOf_9 ?_
  refine lv_topi (fun x_5 ex_5 => ?_)
  have h := op_ks ex_5 h
  obtain rfl := Option.some.inj h
  exact W.iret hx hb hr (fun t ht hW => ⟨_, rfl, rfl, ht⟩) cf_pnil dCu_sizeOf_10 hlocks
theorem mCu_sizeOf (l : Launch) (v0 : Int64) (r : Int32) (h : fCu_sizeOf v0 = some r) : Met l yCu_sizeOf (Cond.code yCu_sizeOf cCu_sizeOf 2 (Option.some Jvm.ClassFile.FieldType.int) :: cfB) ({ frames := 2, cells := 0, slots := 0, locals := 43 }) (fun v _ => v = ([.long v0] : List Value).toArray) (cf_Pi (fun x => x = r)) 0 0 (fun _ => False) := by
  refine cf_ofP (y := yCu_sizeOf) (As := [.long v0]) (maxL := 2) (cf_Pi (fun x => x = r)) (by decide) (Nat.le_of_ble_eq_true rfl) ?_
  intro p e s m below meth c ls C hl
  exact bCu_sizeOf_0 (l := l) C v0 r h hl
def IhCo_takeCut (p : Program) (l : Launch) (e : Env) (s : State) (m : MethodId) (below : List Frame) (meth : Method) (c : Code) (A : Nat → Prop) (D : va_G) (K : Nat → ClassId) (h0 : Nat) (a0 : Nat → Nat) (AR : Array Value) (n : Nat) : Prop := (∀ (v1 : Int64) (v3 : Int32) (o0 : cf_O) (r : cf_O), gCo_takeCut n 0 v1 v3 o0 = some r → ∀ {H : Heap} {locs : List Loc} {ls : Array Slot}, (va_P D vwCl (wCo K h0 a0 o0) H) → (va_D A (wCo K h0 a0 o0)) → va_S A s.heap H locs → lv_has ls 5 [(0, .ref h0), (1, .long v1), (3, .int v3)] → W p l e ({ frames := 3, cells := 0, slots := 0, locals := 64 }) s m AR below meth c H locs 0 0 (MQ below (va_Qv (fun (_ : Unit) => True) (fun (_ : Unit) t => cf_At D A (wCo K h0 a0 r) t) A) AR s 0 0 A) (F0 m 18 ls []))
set_option maxHeartbeats 4000000 in
set_option maxRecDepth 100000 in
theorem bCo_takeCut_18 {p : Program} {l : Launch} {e : Env} {s : State} {m : MethodId} {below : List Frame} {meth : Method} {c : Code} {A : Nat → Prop} {D : va_G} {K : Nat → ClassId} {h0 : Nat} {a0 : Nat → Nat} {AR : Array Value} (C : (dc_C p s m AR meth c cCo_takeCut 5 (Option.none : Option Jvm.ClassFile.FieldType) yCo_takeCut ∧ cf_E D K A s s.heap ∧ ∀ q, s.heap.size ≤ q → A q)) {n : Nat} (ih : IhCo_takeCut p l e s m below meth c A D K h0 a0 AR n) (v1 : Int64) (v3 : Int32) (o0 : cf_O) (r : cf_O) (h : fCo_takeCut_18 (gCo_takeCut n) v1 v3 o0 = some r) {H : Heap} {locs : List Loc} {ls : Array Slot} (hP : va_P D vwCl (wCo K h0 a0 o0) H) (hD : va_D A (wCo K h0 a0 o0)) (hS : va_S A s.heap H locs) (hl : lv_has ls 5 [(0, .ref h0), (1, .long v1), (3, .int v3)]) : W p l e ({ frames := 3, cells := 0, slots := 0, locals := 64 }) s m AR below meth c H locs 0 0 (MQ below (va_Qv (fun (_ : Unit) => True) (fun (_ : Unit) t => cf_At D A (wCo K h0 a0 r) t) A) AR s 0 0 A) (F0 m 18 ls []) := by
  obtain ⟨⟨hx, hb, hr, hts, hown, hlocks, hin, hml⟩, hE, hA⟩ := id C
  have hK := hE.k
  obtain ⟨t_CoPATTERNS, hZt_CoPATTERNS, hTt_CoPATTERNS⟩ := hE.2.2.2.2.2.1
  refine lv_iload_n hx hb dCo_takeCut_18 rfl (lv_at hl 2 rfl) ?_
  refine lv_aload_n hx hb dCo_takeCut_19 rfl (lv_at hl 0 rfl) ?_
  refine va_get (D := D) (ci := 6) (v := .int (o0.1 0)) (C := RCo) (T := TCo) (N := 5) hx hb hts inCo hown hK hP 0 rfl rfl 0 (by decide) (hts _ wv_292) (fun _ h9 => h9) rfl dCo_takeCut_20 ?_
  refine lv_icmp_ge (tgt := 80) hx hb dCo_takeCut_23 (by decide) (fun c_1 => ?_) (fun c_1 => ?_)
  · have h := op_t c_1 h
    obtain rfl := Option.some.inj h
    exact dc_vret hx hb hr hlocks rfl hP hD hS dCo_takeCut_80
  · have h := op_f c_1 h
    refine lv_lload_n hx hb dCo_takeCut_26 rfl (lv_at hl 1 rfl) ?_
    refine lv_bipush (v := 8) hx hb dCo_takeCut_27 (by decide) ?_
    refine lv_aload_n hx hb dCo_takeCut_29 rfl (lv_at hl 0 rfl) ?_
    refine va_get (D := D) (ci := 6) (v := .int (o0.1 0)) (C := RCo) (T := TCo) (N := 5) hx hb hts inCo hown hK hP 0 rfl rfl 0 (by decide) (hts _ wv_292) (fun _ h9 => h9) rfl dCo_takeCut_30 ?_
    refine lv_iconst (v := 1) hx hb dCo_takeCut_33 (by decide) ?_
    refine lv_isub hx hb dCo_takeCut_34 ?_
    refine lv_topi (fun x_2 ex_2 => ?_)
    have h := op_ks ex_2 h
    refine lv_iload_n hx hb dCo_takeCut_35 rfl (lv_at hl 2 rfl) ?_
    refine lv_isub hx hb dCo_takeCut_36 ?_
    refine lv_topi (fun x_3 ex_3 => ?_)
    have h := op_ks ex_3 h
    refine lv_imul hx hb dCo_takeCut_37 ?_
    refine lv_topi (fun x_4 ex_4 => ?_)
    have h := op_ks ex_4 h
    refine lv_lushr hx hb dCo_takeCut_38 rfl ?_
    refine lv_topl (fun x_5 ex_5 => ?_)
    have h := op_ks ex_5 h
    refine lv_ldc2 (v := 255) hx hb hown (hts _ wv_1367) dCo_takeCut_39 ?_
    refine lv_land hx hb dCo_takeCut_42 ?_
    refine lv_topl (fun x_6 ex_6 => ?_)
    have h := op_ks ex_6 h
    refine lv_l2i hx hb dCo_takeCut_43 rfl ?_
    refine lv_topi (fun x_7 ex_7 => ?_)
    have h := op_ks ex_7 h
    refine lv_istore (lv' := [(4, .int x_7), (0, .ref h0), (1, .long v1), (3, .int v3)]) hx hb dCo_takeCut_44 hl (by decide) rfl (fun ls hl => ?_)
    refine lv_aload_n hx hb dCo_takeCut_46 rfl (lv_at hl 1 rfl) ?_
    refine va_get (D := D) (ci := 6) (v := .ref (a0 2)) (C := RCo) (T := TCo) (N := 5) hx hb hts inCo hown hK hP 0 rfl rfl 2 (by decide) (hts _ wv_298) (fun _ h9 => h9) rfl dCo_takeCut_47 ?_
    refine lv_iload_n hx hb dCo_takeCut_50 rfl (lv_at hl 3 rfl) ?_
    refine lv_iload hx hb dCo_takeCut_51 (lv_at hl 0 rfl) ?_
    obtain ⟨hi_8, h⟩ := op_n h
    refine va_iast (D := D) hx hb hK hP hD hS 1 0 rfl rfl hi_8 dCo_takeCut_53 (fun H locs hP hD hS => ?_)
    have hP : va_P D vwCl (wCo K h0 a0 (xp o0 2 v3.toNatClampNeg x_7)) H := hP
    have hD : va_D A (wCo K h0 a0 (xp o0 2 v3.toNatClampNeg x_7)) := hD
    obtain ⟨o_9, eo_9, h⟩ := op_kx h
    rw [← eo_9] at hP hD
    refine lv_aload_n hx hb dCo_takeCut_54 rfl (lv_at hl 1 rfl) ?_
    refine va_get (D := D) (ci := 6) (v := .ref (a0 3)) (C := RCo) (T := TCo) (N := 5) hx hb hts inCo hown hK hP 0 rfl rfl 3 (by decide) (hts _ wv_301) (fun _ h9 => h9) rfl dCo_takeCut_55 ?_
    refine lv_iload hx hb dCo_takeCut_58 (lv_at hl 0 rfl) ?_
    refine lv_iconst (v := 2) hx hb dCo_takeCut_60 (by decide) ?_
    obtain ⟨hi_10, h⟩ := op_n h
    refine va_iast (D := D) hx hb hK hP hD hS 2 0 rfl rfl hi_10 dCo_takeCut_61 (fun H locs hP hD hS => ?_)
    have hP : va_P D vwCl (wCo K h0 a0 (xp o_9 3 x_7.toNatClampNeg 2)) H := hP
    have hD : va_D A (wCo K h0 a0 (xp o_9 3 x_7.toNatClampNeg 2)) := hD
    obtain ⟨o_11, eo_11, h⟩ := op_kx h
    rw [← eo_11] at hP hD
    refine lv_aload_n hx hb dCo_takeCut_62 rfl (lv_at hl 1 rfl) ?_
    refine va_get (D := D) (ci := 6) (v := .ref (a0 4)) (C := RCo) (T := TCo) (N := 5) hx hb hts inCo hown hK hP 0 rfl rfl 4 (by decide) (hts _ wv_302) (fun _ h9 => h9) rfl dCo_takeCut_63 ?_
    refine lv_iload hx hb dCo_takeCut_66 (lv_at hl 0 rfl) ?_
    refine va_gets hx hb hZt_CoPATTERNS hS hown (hts _ wv_1368) (fun _ h9 => h9) dCo_takeCut_68 ?_
    refine lv_iload_n hx hb dCo_takeCut_71 rfl (lv_at hl 3 rfl) ?_
    obtain ⟨hi_12, h⟩ := op_n h
    refine va_ti hx hb hTt_CoPATTERNS hS (i := v3) hi_12 (v := .int (cf_patterns v3.toNatClampNeg)) rfl dCo_takeCut_72 ?_
    refine lv_topi (fun x_13 ex_13 => ?_)
    have h := op_ks ex_13 h
    obtain ⟨hi_14, h⟩ := op_n h
    refine va_iast (D := D) hx hb hK hP hD hS 3 0 rfl rfl hi_14 dCo_takeCut_73 (fun H locs hP hD hS => ?_)
    have hP : va_P D vwCl (wCo K h0 a0 (xp o_11 4 x_7.toNatClampNeg x_13)) H := hP
    have hD : va_D A (wCo K h0 a0 (xp o_11 4 x_7.toNatClampNeg x_13)) := hD
    obtain ⟨o_15, eo_15, h⟩ := op_kx h
    rw [← eo_15] at hP hD
    obtain ⟨x_16, ex_16⟩ : ∃ y : Int32, y = v3 + 1 := ⟨_, rfl⟩
    refine lv_iinc (v := x_16) (lv' := [(3, .int x_16), (4, .int x_7), (0, .ref h0), (1, .long v1)]) hx hb dCo_takeCut_74 hl (k := 3) rfl (by rw [ex_16]; rfl) (by decide) rfl (fun ls hl => ?_)
    have h := op_ks ex_16 h
    refine lv_goto (tgt := 18) hx hb dCo_takeCut_77 (by decide) ?_
    exact (ih) _ _ _ _ h hP hD hS (lv_sub hl [2, 3, 0] rfl)
set_option maxHeartbeats 4000000 in
set_option maxRecDepth 100000 in
theorem bCo_takeCut_0 {p : Program} {l : Launch} {e : Env} {s : State} {m : MethodId} {below : List Frame} {meth : Method} {c : Code} {A : Nat → Prop} {D : va_G} {K : Nat → ClassId} {h0 : Nat} {a0 : Nat → Nat} {AR : Array Value} (C : (dc_C p s m AR meth c cCo_takeCut 5 (Option.none : Option Jvm.ClassFile.FieldType) yCo_takeCut ∧ cf_E D K A s s.heap ∧ ∀ q, s.heap.size ≤ q → A q)) {n : Nat} (ih : IhCo_takeCut p l e s m below meth c A D K h0 a0 AR n) (v1 : Int64) (o0 : cf_O) (r : cf_O) (h : fCo_takeCut_0 (gCo_takeCut n) v1 o0 = some r) {H : Heap} {locs : List Loc} {ls : Array Slot} (hP : va_P D vwCl (wCo K h0 a0 o0) H) (hD : va_D A (wCo K h0 a0 o0)) (hS : va_S A s.heap H locs) (hl : lv_has ls 5 [(0, .ref h0), (1, .long v1)]) : W p l e ({ frames := 3, cells := 0, slots := 0, locals := 64 }) s m AR below meth c H locs 0 0 (MQ below (va_Qv (fun (_ : Unit) => True) (fun (_ : Unit) t => cf_At D A (wCo K h0 a0 r) t) A) AR s 0 0 A) (F0 m 0 ls []) := by
  obtain ⟨⟨hx, hb, hr, hts, hown, hlocks, hin, hml⟩, hE, hA⟩ := id C
  have hK := hE.k
  obtain ⟨t_CoPATTERNS, hZt_CoPATTERNS, hTt_CoPATTERNS⟩ := hE.2.2.2.2.2.1
  refine lv_aload_n hx hb dCo_takeCut_0 rfl (lv_at hl 0 rfl) ?_
  refine va_get (D := D) (ci := 6) (v := .ref (a0 3)) (C := RCo) (T := TCo) (N := 5) hx hb hts inCo hown hK hP 0 rfl rfl 3 (by decide) (hts _ wv_301) (fun _ h9 => h9) rfl dCo_takeCut_1 ?_
  refine lv_iconst (v := 0) hx hb dCo_takeCut_4 (by decide) ?_
  obtain ⟨q_1, hq_1, h⟩ := op_b h
  refine dc_callv (va_runS (As := [.ref (a0 3), .int 0]) (rest := []) ⟨hx, hb, hml, hown, hts⟩ (mJArrays_fill_AII_Co3 l D K _ 0 h0 a0 o0 _ hq_1) (va_cwS 2 hts (cf_GS wv_1357 wv_841 wv_181 wv_842) rfl rfl rfl (by decide +kernel) ⟨Nat.le_of_ble_eq_true rfl, Nat.le_of_ble_eq_true rfl⟩) (dc_preS hE hP hD hS hA) rfl rfl hl.1 rfl (lv_room (Nat.le_of_ble_eq_true rfl)) dCo_takeCut_5 ⟨Nat.le_of_ble_eq_true rfl, Nat.le_of_ble_eq_true rfl⟩) hP hD hS hA (fun H locs hP hD hS => ?_)
  refine lv_aload_n hx hb dCo_takeCut_8 rfl (lv_at hl 0 rfl) ?_
  refine lv_lload_n hx hb dCo_takeCut_9 rfl (lv_at hl 1 rfl) ?_
  obtain ⟨q_3, hq_3, h⟩ := op_b h
  refine cf_pcalli (va_runS (As := [.long v1]) (rest := [.ref h0]) ⟨hx, hb, hml, hown, hts⟩ (mCu_sizeOf l v1 _ hq_3) (va_cwS 1 hts (cf_GS wv_1358 wv_1359 wv_160 wv_1360) rfl rfl rfl (by decide +kernel) ⟨Nat.le_of_ble_eq_true rfl, Nat.le_of_ble_eq_true rfl⟩) preEq rfl rfl hl.1 rfl (lv_room (Nat.le_of_ble_eq_true rfl)) dCo_takeCut_10 ⟨Nat.le_of_ble_eq_true rfl, Nat.le_of_ble_eq_true rfl⟩) (fun r_4 hw_5 => ?_)
  subst r_4
  refine va_put (D := D) (ci := 6) (v := .int q_3) (ty := .int) (C := RCo) (T := TCo) (N := 5) hx hb hts inCo tyCo tyokCo nmCo hown hK hP hD hS 0 rfl rfl 0 (by decide) (hts _ wv_292) (fun _ h9 => h9) rfl (by decide +kernel) rfl rfl (Nat.le_of_ble_eq_true rfl) dCo_takeCut_13 (fun H locs hP hD hS => ?_)
  have hP : va_P D vwCl (wCo K h0 a0 (fp q_1 0 q_3)) H := hP
  have hD : va_D A (wCo K h0 a0 (fp q_1 0 q_3)) := hD
  obtain ⟨o_6, eo_6, h⟩ := op_kx h
  rw [← eo_6] at hP hD
  refine lv_iconst (v := 0) hx hb dCo_takeCut_16 (by decide) ?_
  refine lv_istore_n (lv' := [(3, .int 0), (0, .ref h0), (1, .long v1)]) hx hb dCo_takeCut_17 rfl hl (by decide) rfl (fun ls hl => ?_)
  exact (ih) _ _ _ _ h hP hD hS (lv_sub hl [1, 2, 0] rfl)
theorem iCo_takeCut {p : Program} {l : Launch} {e : Env} {s : State} {m : MethodId} {below : List Frame} {meth : Method} {c : Code} {A : Nat → Prop} {D : va_G} {K : Nat → ClassId} {h0 : Nat} {a0 : Nat → Nat} {AR : Array Value} (C : (dc_C p s m AR meth c cCo_takeCut 5 (Option.none : Option Jvm.ClassFile.FieldType) yCo_takeCut ∧ cf_E D K A s s.heap ∧ ∀ q, s.heap.size ≤ q → A q)) : ∀ n, IhCo_takeCut p l e s m below meth c A D K h0 a0 AR n := by
  intro n
  induction n with
  | zero => exact (fun _ _ _ r h => by cases (show none = some r from h))
  | succ n ih => exact fun x0 x1 x2 r h _ _ _ hP hD hS hl => bCo_takeCut_18 C ih x0 x1 x2 r h hP hD hS hl
set_option maxRecDepth 100000 in
theorem mCo_takeCut (l : Launch) (D : va_G) (K : Nat → ClassId) (sz : Nat) (v1 : Int64) (h0 : Nat) (a0 : Nat → Nat) (o0 : cf_O) (r : cf_O) (h : fCo_takeCut v1 o0 = some r) : Met l yCo_takeCut (Cond.code yCo_takeCut cCo_takeCut 5 (Option.none : Option Jvm.ClassFile.FieldType) :: cfB) ({ frames := 3, cells := 0, slots := 0, locals := 64 }) (va_Pc [.ref h0, .long v1] (cf_Pre D K sz (wCo K h0 a0 o0))) (va_Qv (fun (_ : Unit) => True) (fun (_ : Unit) t => cf_At D (va_A (wCo K h0 a0 o0) sz) (wCo K h0 a0 r) t) (va_A (wCo K h0 a0 o0) sz)) 0 0 (va_A (wCo K h0 a0 o0) sz) := by
  refine cf_ofW (y := yCo_takeCut) (As := [.ref h0, .long v1]) (WS := wCo K h0 a0 o0) (maxL := 5) (fun A => (va_Qv (fun (_ : Unit) => True) (fun (_ : Unit) t => cf_At D A (wCo K h0 a0 r) t) A)) (by decide) (Nat.le_of_ble_eq_true rfl) ?_
  intro p e s m below meth c A ls En hsz hA hP hD hE hS hl
  have C : (dc_C p s m (([.ref h0, .long v1] : List Value).toArray) meth c cCo_takeCut 5 (Option.none : Option Jvm.ClassFile.FieldType) yCo_takeCut ∧ cf_E D K A s s.heap ∧ ∀ q, s.heap.size ≤ q → A q) := ⟨En, hE, hA⟩
  exact bCo_takeCut_0 C (iCo_takeCut C cfFU) v1 o0 r h hP hD hS hl
set_option maxHeartbeats 4000000 in
set_option maxRecDepth 100000 in
theorem bCo_reach_16 {p : Program} {l : Launch} {e : Env} {s : State} {m : MethodId} {below : List Frame} {meth : Method} {c : Code} {A : Nat → Prop} {D : va_G} {K : Nat → ClassId} {h0 : Nat} {a0 : Nat → Nat} {AR : Array Value} (C : (dc_C p s m AR meth c cCo_reach 2 (Option.none : Option Jvm.ClassFile.FieldType) yCo_reach ∧ cf_E D K A s s.heap ∧ ∀ q, s.heap.size ≤ q → A q)) (o0 : cf_O) (r : cf_O) (h : fCo_reach_16 o0 = some r) {H : Heap} {locs : List Loc} {ls : Array Slot} (hP : va_P D vwCl (wCo K h0 a0 o0) H) (hD : va_D A (wCo K h0 a0 o0)) (hS : va_S A s.heap H locs) (hl : lv_has ls 2 []) : W p l e ({ frames := 0, cells := 0, slots := 0, locals := 0 }) s m AR below meth c H locs 0 0 (MQ below (va_Qv (fun (_ : Unit) => True) (fun (_ : Unit) t => cf_At D A (wCo K h0 a0 r) t) A) AR s 0 0 A) (F0 m 16 ls []) := by
  obtain ⟨⟨hx, hb, hr, hts, hown, hlocks, hin, hml⟩, hE, hA⟩ := id C
  have hK := hE.k
  obtain rfl := Option.some.inj h
  exact dc_vret hx hb hr hlocks rfl hP hD hS dCo_reach_16
set_option maxHeartbeats 4000000 in
set_option maxRecDepth 100000 in
theorem bCo_reach_0 {p : Program} {l : Launch} {e : Env} {s : State} {m : MethodId} {below : List Frame} {meth : Method} {c : Code} {A : Nat → Prop} {D : va_G} {K : Nat → ClassId} {h0 : Nat} {a0 : Nat → Nat} {AR : Array Value} (C : (dc_C p s m AR meth c cCo_reach 2 (Option.none : Option Jvm.ClassFile.FieldType) yCo_reach ∧ cf_E D K A s s.heap ∧ ∀ q, s.heap.size ≤ q → A q)) (v1 : Int32) (o0 : cf_O) (r : cf_O) (h : fCo_reach_0 v1 o0 = some r) {H : Heap} {locs : List Loc} {ls : Array Slot} (hP : va_P D vwCl (wCo K h0 a0 o0) H) (hD : va_D A (wCo K h0 a0 o0)) (hS : va_S A s.heap H locs) (hl : lv_has ls 2 [(0, .ref h0), (1, .int v1)]) : W p l e ({ frames := 0, cells := 0, slots := 0, locals := 0 }) s m AR below meth c H locs 0 0 (MQ below (va_Qv (fun (_ : Unit) => True) (fun (_ : Unit) t => cf_At D A (wCo K h0 a0 r) t) A) AR s 0 0 A) (F0 m 0 ls []) := by
  obtain ⟨⟨hx, hb, hr, hts, hown, hlocks, hin, hml⟩, hE, hA⟩ := id C
  have hK := hE.k
  refine lv_aload_n hx hb dCo_reach_0 rfl (lv_at hl 0 rfl) ?_
  refine va_get (D := D) (ci := 6) (v := .ref (a0 3)) (C := RCo) (T := TCo) (N := 5) hx hb hts inCo hown hK hP 0 rfl rfl 3 (by decide) (hts _ wv_301) (fun _ h9 => h9) rfl dCo_reach_1 ?_
  refine lv_iload_n hx hb dCo_reach_4 rfl (lv_at hl 1 rfl) ?_
  obtain ⟨hi_1, h⟩ := op_n h
  refine va_iald (D := D) hx hb hK hP 2 0 rfl rfl hi_1 dCo_reach_5 ?_
  refine lv_topi (fun x_2 ex_2 => ?_)
  have h := op_ks ex_2 h
  refine lv_if_ne (tgt := 16) hx hb dCo_reach_6 (by decide) (fun c_3 => ?_) (fun c_3 => ?_)
  · have h := op_f c_3 h
    exact bCo_reach_16 C _ _ h hP hD hS (lv_sub hl [] rfl)
  · have h := op_t c_3 h
    refine lv_aload_n hx hb dCo_reach_9 rfl (lv_at hl 0 rfl) ?_
    refine va_get (D := D) (ci := 6) (v := .ref (a0 3)) (C := RCo) (T := TCo) (N := 5) hx hb hts inCo hown hK hP 0 rfl rfl 3 (by decide) (hts _ wv_301) (fun _ h9 => h9) rfl dCo_reach_10 ?_
    refine lv_iload_n hx hb dCo_reach_13 rfl (lv_at hl 1 rfl) ?_
    refine lv_iconst (v := 1) hx hb dCo_reach_14 (by decide) ?_
    obtain ⟨hi_4, h⟩ := op_n h
    refine va_iast (D := D) hx hb hK hP hD hS 2 0 rfl rfl hi_4 dCo_reach_15 (fun H locs hP hD hS => ?_)
    have hP : va_P D vwCl (wCo K h0 a0 (xp o0 3 v1.toNatClampNeg 1)) H := hP
    have hD : va_D A (wCo K h0 a0 (xp o0 3 v1.toNatClampNeg 1)) := hD
    obtain ⟨o_5, eo_5, h⟩ := op_kx h
    rw [← eo_5] at hP hD
    exact bCo_reach_16 C _ _ h hP hD hS (lv_sub hl [] rfl)
set_option maxRecDepth 100000 in
theorem mCo_reach (l : Launch) (D : va_G) (K : Nat → ClassId) (sz : Nat) (v1 : Int32) (h0 : Nat) (a0 : Nat → Nat) (o0 : cf_O) (r : cf_O) (h : fCo_reach v1 o0 = some r) : Met l yCo_reach (Cond.code yCo_reach cCo_reach 2 (Option.none : Option Jvm.ClassFile.FieldType) :: cfB) ({ frames := 0, cells := 0, slots := 0, locals := 0 }) (va_Pc [.ref h0, .int v1] (cf_Pre D K sz (wCo K h0 a0 o0))) (va_Qv (fun (_ : Unit) => True) (fun (_ : Unit) t => cf_At D (va_A (wCo K h0 a0 o0) sz) (wCo K h0 a0 r) t) (va_A (wCo K h0 a0 o0) sz)) 0 0 (va_A (wCo K h0 a0 o0) sz) := by
  refine cf_ofW (y := yCo_reach) (As := [.ref h0, .int v1]) (WS := wCo K h0 a0 o0) (maxL := 2) (fun A => (va_Qv (fun (_ : Unit) => True) (fun (_ : Unit) t => cf_At D A (wCo K h0 a0 r) t) A)) (by decide) (Nat.le_of_ble_eq_true rfl) ?_
  intro p e s m below meth c A ls En hsz hA hP hD hE hS hl
  have C : (dc_C p s m (([.ref h0, .int v1] : List Value).toArray) meth c cCo_reach 2 (Option.none : Option Jvm.ClassFile.FieldType) yCo_reach ∧ cf_E D K A s s.heap ∧ ∀ q, s.heap.size ≤ q → A q) := ⟨En, hE, hA⟩
  exact bCo_reach_0 C v1 o0 r h hP hD hS hl
set_option maxHeartbeats 4000000 in
set_option maxRecDepth 100000 in
theorem bCo_valueOf_0 {p : Program} {l : Launch} {e : Env} {s : State} {m : MethodId} {below : List Frame} {meth : Method} {c : Code} {A : Nat → Prop} {D : va_G} {K : Nat → ClassId} {h0 : Nat} {a0 : Nat → Nat} {AR : Array Value} (C : (dc_C p s m AR meth c cCo_valueOf 2 (Option.some Jvm.ClassFile.FieldType.int) yCo_valueOf ∧ cf_E D K A s s.heap ∧ ∀ q, s.heap.size ≤ q → A q)) (v1 : Int32) (o0 : cf_O) (r : Int32) (h : fCo_valueOf_0 v1 o0 = some r) {H : Heap} {locs : List Loc} {ls : Array Slot} (hP : va_P D vwCl (wCo K h0 a0 o0) H) (hD : va_D A (wCo K h0 a0 o0)) (hS : va_S A s.heap H locs) (hl : lv_has ls 2 [(0, .ref h0), (1, .int v1)]) : W p l e ({ frames := 0, cells := 0, slots := 0, locals := 0 }) s m AR below meth c H locs 0 0 (MQ below (va_Qi (fun (x : Int32) (_ : Unit) => x = r) (fun (_ : Unit) t => cf_At D A (wCo K h0 a0 o0) t) A) AR s 0 0 A) (F0 m 0 ls []) := by
  obtain ⟨⟨hx, hb, hr, hts, hown, hlocks, hin, hml⟩, hE, hA⟩ := id C
  have hK := hE.k
  refine lv_aload_n hx hb dCo_valueOf_0 rfl (lv_at hl 0 rfl) ?_
  refine va_get (D := D) (ci := 6) (v := .ref (a0 4)) (C := RCo) (T := TCo) (N := 5) hx hb hts inCo hown hK hP 0 rfl rfl 4 (by decide) (hts _ wv_302) (fun _ h9 => h9) rfl dCo_valueOf_1 ?_
  refine lv_iload_n hx hb dCo_valueOf_4 rfl (lv_at hl 1 rfl) ?_
  refine lv_iconst (v := 1) hx hb dCo_valueOf_5 (by decide) ?_
  refine lv_ishr hx hb dCo_valueOf_6 ?_
  refine lv_topi (fun x_1 ex_1 => ?_)
  have h := op_ks ex_1 h
  obtain ⟨hi_2, h⟩ := op_n h
  refine va_iald (D := D) hx hb hK hP 3 0 rfl rfl hi_2 dCo_valueOf_7 ?_
  refine lv_topi (fun x_3 ex_3 => ?_)
  have h := op_ks ex_3 h
  refine lv_iload_n hx hb dCo_valueOf_8 rfl (lv_at hl 1 rfl) ?_
  refine lv_iconst (v := 1) hx hb dCo_valueOf_9 (by decide) ?_
  refine lv_iand hx hb dCo_valueOf_10 ?_
  refine lv_topi (fun x_4 ex_4 => ?_)
  have h := op_ks ex_4 h
  refine lv_ineg hx hb dCo_valueOf_11 ?_
  refine lv_topi (fun x_5 ex_5 => ?_)
  have h := op_ks ex_5 h
  refine lv_ixor hx hb dCo_valueOf_12 ?_
  refine lv_topi (fun x_6 ex_6 => ?_)
  have h := op_ks ex_6 h
  obtain rfl := Option.some.inj h
  exact dc_iret hx hb hr hlocks rfl hP hD hS dCo_valueOf_13
set_option maxRecDepth 100000 in
theorem mCo_valueOf (l : Launch) (D : va_G) (K : Nat → ClassId) (sz : Nat) (v1 : Int32) (h0 : Nat) (a0 : Nat → Nat) (o0 : cf_O) (r : Int32) (h : fCo_valueOf v1 o0 = some r) : Met l yCo_valueOf (Cond.code yCo_valueOf cCo_valueOf 2 (Option.some Jvm.ClassFile.FieldType.int) :: cfB) ({ frames := 0, cells := 0, slots := 0, locals := 0 }) (va_Pc [.ref h0, .int v1] (cf_Pre D K sz (wCo K h0 a0 o0))) (va_Qi (fun (x : Int32) (_ : Unit) => x = r) (fun (_ : Unit) t => cf_At D (va_A (wCo K h0 a0 o0) sz) (wCo K h0 a0 o0) t) (va_A (wCo K h0 a0 o0) sz)) 0 0 (va_A (wCo K h0 a0 o0) sz) := by
  refine cf_ofW (y := yCo_valueOf) (As := [.ref h0, .int v1]) (WS := wCo K h0 a0 o0) (maxL := 2) (fun A => (va_Qi (fun (x : Int32) (_ : Unit) => x = r) (fun (_ : Unit) t => cf_At D A (wCo K h0 a0 o0) t) A)) (by decide) (Nat.le_of_ble_eq_true rfl) ?_
  intro p e s m below meth c A ls En hsz hA hP hD hE hS hl
  have C : (dc_C p s m (([.ref h0, .int v1] : List Value).toArray) meth c cCo_valueOf 2 (Option.some Jvm.ClassFile.FieldType.int) yCo_valueOf ∧ cf_E D K A s s.heap ∧ ∀ q, s.heap.size ≤ q → A q) := ⟨En, hE, hA⟩
  exact bCo_valueOf_0 C v1 o0 r h hP hD hS hl
def IhCo_find (p : Program) (l : Launch) (e : Env) (s : State) (m : MethodId) (below : List Frame) (meth : Method) (c : Code) (A : Nat → Prop) (D : va_G) (K : Nat → ClassId) (h0 : Nat) (a0 : Nat → Nat) (h1 : Nat) (a1 : Nat → Nat) (AR : Array Value) (n : Nat) : Prop := (∀ (v2 : Int32) (v5 : Int32) (o0 : cf_O) (o1 : cf_O) (r : cf_O), gCo_find n 0 v2 v5 o0 o1 = some r → ∀ {H : Heap} {locs : List Loc} {ls : Array Slot}, (va_P D vwCl (wCo K h0 a0 o0 ++ wGr K h1 a1 o1) H) → (va_D A (wCo K h0 a0 o0 ++ wGr K h1 a1 o1)) → va_S A s.heap H locs → lv_has ls 6 [(0, .ref h0), (1, .ref h1), (2, .int v2), (5, .int v5)] → W p l e ({ frames := 4, cells := 0, slots := 0, locals := 88 }) s m AR below meth c H locs 0 0 (MQ below (va_Qv (fun (_ : Unit) => True) (fun (_ : Unit) t => cf_At D A (wCo K h0 a0 r ++ wGr K h1 a1 o1) t) A) AR s 0 0 A) (F0 m 15 ls [])) ∧ (∀ (v2 : Int32) (v5 : Int32) (o0 : cf_O) (o1 : cf_O) (r : cf_O), gCo_find n 1 v2 v5 o0 o1 = some r → ∀ {H : Heap} {locs : List Loc} {ls : Array Slot}, (va_P D vwCl (wCo K h0 a0 o0 ++ wGr K h1 a1 o1) H) → (va_D A (wCo K h0 a0 o0 ++ wGr K h1 a1 o1)) → va_S A s.heap H locs → lv_has ls 6 [(0, .ref h0), (1, .ref h1), (2, .int v2), (5, .int v5)] → W p l e ({ frames := 4, cells := 0, slots := 0, locals := 88 }) s m AR below meth c H locs 0 0 (MQ below (va_Qv (fun (_ : Unit) => True) (fun (_ : Unit) t => cf_At D A (wCo K h0 a0 r ++ wGr K h1 a1 o1) t) A) AR s 0 0 A) (F0 m 79 ls []))
set_option maxHeartbeats 4000000 in
set_option maxRecDepth 100000 in
theorem bCo_find_126 {p : Program} {l : Launch} {e : Env} {s : State} {m : MethodId} {below : List Frame} {meth : Method} {c : Code} {A : Nat → Prop} {D : va_G} {K : Nat → ClassId} {h0 : Nat} {a0 : Nat → Nat} {h1 : Nat} {a1 : Nat → Nat} {AR : Array Value} (C : (dc_C p s m AR meth c cCo_find 6 (Option.none : Option Jvm.ClassFile.FieldType) yCo_find ∧ cf_E D K A s s.heap ∧ ∀ q, s.heap.size ≤ q → A q)) {n : Nat} (ih : IhCo_find p l e s m below meth c A D K h0 a0 h1 a1 AR n) (v2 : Int32) (v5 : Int32) (o0 : cf_O) (o1 : cf_O) (r : cf_O) (h : fCo_find_126 (gCo_find n) v2 v5 o0 o1 = some r) {H : Heap} {locs : List Loc} {ls : Array Slot} (hP : va_P D vwCl (wCo K h0 a0 o0 ++ wGr K h1 a1 o1) H) (hD : va_D A (wCo K h0 a0 o0 ++ wGr K h1 a1 o1)) (hS : va_S A s.heap H locs) (hl : lv_has ls 6 [(0, .ref h0), (1, .ref h1), (2, .int v2), (5, .int v5)]) : W p l e ({ frames := 4, cells := 0, slots := 0, locals := 88 }) s m AR below meth c H locs 0 0 (MQ below (va_Qv (fun (_ : Unit) => True) (fun (_ : Unit) t => cf_At D A (wCo K h0 a0 r ++ wGr K h1 a1 o1) t) A) AR s 0 0 A) (F0 m 126 ls []) := by
  obtain ⟨⟨hx, hb, hr, hts, hown, hlocks, hin, hml⟩, hE, hA⟩ := id C
  have hK := hE.k
  obtain ⟨x_1, ex_1⟩ : ∃ y : Int32, y = v5 + 1 := ⟨_, rfl⟩
  refine lv_iinc (v := x_1) (lv' := [(5, .int x_1), (0, .ref h0), (1, .ref h1), (2, .int v2)]) hx hb dCo_find_126 hl (k := 3) rfl (by rw [ex_1]; rfl) (by decide) rfl (fun ls hl => ?_)
  have h := op_ks ex_1 h
  refine lv_goto (tgt := 79) hx hb dCo_find_129 (by decide) ?_
  exact (ih.2) _ _ _ _ _ h hP hD hS (lv_sub hl [1, 2, 3, 0] rfl)
set_option maxHeartbeats 4000000 in
set_option maxRecDepth 100000 in
theorem bCo_find_79 {p : Program} {l : Launch} {e : Env} {s : State} {m : MethodId} {below : List Frame} {meth : Method} {c : Code} {A : Nat → Prop} {D : va_G} {K : Nat → ClassId} {h0 : Nat} {a0 : Nat → Nat} {h1 : Nat} {a1 : Nat → Nat} {AR : Array Value} (C : (dc_C p s m AR meth c cCo_find 6 (Option.none : Option Jvm.ClassFile.FieldType) yCo_find ∧ cf_E D K A s s.heap ∧ ∀ q, s.heap.size ≤ q → A q)) {n : Nat} (ih : IhCo_find p l e s m below meth c A D K h0 a0 h1 a1 AR n) (v2 : Int32) (v5 : Int32) (o0 : cf_O) (o1 : cf_O) (r : cf_O) (h : fCo_find_79 (gCo_find n) v2 v5 o0 o1 = some r) {H : Heap} {locs : List Loc} {ls : Array Slot} (hP : va_P D vwCl (wCo K h0 a0 o0 ++ wGr K h1 a1 o1) H) (hD : va_D A (wCo K h0 a0 o0 ++ wGr K h1 a1 o1)) (hS : va_S A s.heap H locs) (hl : lv_has ls 6 [(0, .ref h0), (1, .ref h1), (2, .int v2), (5, .int v5)]) : W p l e ({ frames := 4, cells := 0, slots := 0, locals := 88 }) s m AR below meth c H locs 0 0 (MQ below (va_Qv (fun (_ : Unit) => True) (fun (_ : Unit) t => cf_At D A (wCo K h0 a0 r ++ wGr K h1 a1 o1) t) A) AR s 0 0 A) (F0 m 79 ls []) := by
  obtain ⟨⟨hx, hb, hr, hts, hown, hlocks, hin, hml⟩, hE, hA⟩ := id C
  have hK := hE.k
  refine lv_iload hx hb dCo_find_79 (lv_at hl 3 rfl) ?_
  refine lv_iload_n hx hb dCo_find_81 rfl (lv_at hl 2 rfl) ?_
  refine lv_icmp_gt (tgt := 132) hx hb dCo_find_82 (by decide) (fun c_1 => ?_) (fun c_1 => ?_)
  · have h := op_t c_1 h
    refine lv_aload_n hx hb dCo_find_132 rfl (lv_at hl 0 rfl) ?_
    refine lv_aload_n hx hb dCo_find_133 rfl (lv_at hl 0 rfl) ?_
    refine va_get (D := D) (ci := 6) (v := .ref (a0 4)) (C := RCo) (T := TCo) (N := 5) hx hb hts inCo hown hK hP 0 rfl rfl 4 (by decide) (hts _ wv_302) (fun _ h9 => h9) rfl dCo_find_134 ?_
    refine lv_iload_n hx hb dCo_find_137 rfl (lv_at hl 2 rfl) ?_
    obtain ⟨hi_2, h⟩ := op_n h
    refine va_iald (D := D) hx hb hK hP 3 0 rfl rfl hi_2 dCo_find_138 ?_
    refine lv_topi (fun x_3 ex_3 => ?_)
    have h := op_ks ex_3 h
    refine lv_aload_n hx hb dCo_find_139 rfl (lv_at hl 0 rfl) ?_
    refine va_get (D := D) (ci := 6) (v := .int (o0.1 0)) (C := RCo) (T := TCo) (N := 5) hx hb hts inCo hown hK hP 0 rfl rfl 0 (by decide) (hts _ wv_292) (fun _ h9 => h9) rfl dCo_find_140 ?_
    obtain ⟨q_4, hq_4, h⟩ := op_b h
    refine cf_pcalli (va_runS (As := [.int (o0.1 0)]) (rest := [.int x_3, .ref h0]) ⟨hx, hb, hml, hown, hts⟩ (mCo_full l (o0.1 0) _ hq_4) (va_cwS 1 hts (cf_GS wv_1377 wv_1378 wv_161 wv_1379) rfl rfl rfl (by decide +kernel) ⟨Nat.le_of_ble_eq_true rfl, Nat.le_of_ble_eq_true rfl⟩) preEq rfl rfl hl.1 rfl (lv_room (Nat.le_of_ble_eq_true rfl)) dCo_find_143 ⟨Nat.le_of_ble_eq_true rfl, Nat.le_of_ble_eq_true rfl⟩) (fun r_5 hw_6 => ?_)
    subst r_5
    refine lv_iand hx hb dCo_find_146 ?_
    refine lv_topi (fun x_7 ex_7 => ?_)
    have h := op_ks ex_7 h
    refine va_put (D := D) (ci := 6) (v := .int x_7) (ty := .int) (C := RCo) (T := TCo) (N := 5) hx hb hts inCo tyCo tyokCo nmCo hown hK hP hD hS 0 rfl rfl 1 (by decide) (hts _ wv_296) (fun _ h9 => h9) rfl (by decide +kernel) rfl rfl (Nat.le_of_ble_eq_true rfl) dCo_find_147 (fun H locs hP hD hS => ?_)
    have hP : va_P D vwCl (wCo K h0 a0 (fp o0 1 x_7) ++ wGr K h1 a1 o1) H := hP
    have hD : va_D A (wCo K h0 a0 (fp o0 1 x_7) ++ wGr K h1 a1 o1) := hD
    obtain ⟨o_8, eo_8, h⟩ := op_kx h
    rw [← eo_8] at hP hD
    obtain rfl := Option.some.inj h
    exact dc_vret hx hb hr hlocks rfl hP hD hS dCo_find_150
  · have h := op_f c_1 h
    refine lv_aload_n hx hb dCo_find_85 rfl (lv_at hl 0 rfl) ?_
    refine va_get (D := D) (ci := 6) (v := .ref (a0 3)) (C := RCo) (T := TCo) (N := 5) hx hb hts inCo hown hK hP 0 rfl rfl 3 (by decide) (hts _ wv_301) (fun _ h9 => h9) rfl dCo_find_86 ?_
    refine lv_iload hx hb dCo_find_89 (lv_at hl 3 rfl) ?_
    obtain ⟨hi_9, h⟩ := op_n h
    refine va_iald (D := D) hx hb hK hP 2 0 rfl rfl hi_9 dCo_find_91 ?_
    refine lv_topi (fun x_10 ex_10 => ?_)
    have h := op_ks ex_10 h
    refine lv_iconst (v := 1) hx hb dCo_find_92 (by decide) ?_
    refine lv_icmp_ne (tgt := 126) hx hb dCo_find_93 (by decide) (fun c_11 => ?_) (fun c_11 => ?_)
    · have h := op_f c_11 h
      exact bCo_find_126 C ih _ _ _ _ _ h hP hD hS (lv_sub hl [0, 1, 2, 3] rfl)
    · have h := op_t c_11 h
      refine lv_aload_n hx hb dCo_find_96 rfl (lv_at hl 0 rfl) ?_
      refine va_get (D := D) (ci := 6) (v := .ref (a0 4)) (C := RCo) (T := TCo) (N := 5) hx hb hts inCo hown hK hP 0 rfl rfl 4 (by decide) (hts _ wv_302) (fun _ h9 => h9) rfl dCo_find_97 ?_
      refine lv_iload hx hb dCo_find_100 (lv_at hl 3 rfl) ?_
      refine lv_aload_n hx hb dCo_find_102 rfl (lv_at hl 0 rfl) ?_
      refine lv_aload_n hx hb dCo_find_103 rfl (lv_at hl 1 rfl) ?_
      refine va_get (D := D) (ci := 3) (v := .ref (a1 4)) (C := RGr) (T := TGr) (N := 10) hx hb hts inGr hown hK hP 4 rfl rfl 4 (by decide) (hts _ wv_562) (fun _ h9 => h9) rfl dCo_find_104 ?_
      refine lv_iload hx hb dCo_find_107 (lv_at hl 3 rfl) ?_
      obtain ⟨hi_12, h⟩ := op_n h
      refine va_iald (D := D) hx hb hK hP 5 0 rfl rfl hi_12 dCo_find_109 ?_
      refine lv_topi (fun x_13 ex_13 => ?_)
      have h := op_ks ex_13 h
      obtain ⟨q_14, hq_14, h⟩ := op_b h
      refine cf_calli (wc := wCo K h0 a0 o0) (wr := wGr K h1 a1 o1) (va_runV (As := [.int x_13]) (rest := [.int v5, .ref (a0 4)]) ⟨hx, hb, hml, hown, hts⟩ (mCo_valueOf l D K _ x_13 h0 a0 o0 _ hq_14) (cwV 1 hts (cf_GV wv_1373 wv_1375 wv_43 wv_161 wv_1376) rfl rfl rfl (by decide +kernel) ⟨Nat.le_of_ble_eq_true rfl, Nat.le_of_ble_eq_true rfl⟩) (cf_preV (wc := wCo K h0 a0 o0) hE hP hD hS hA rfl 0 rfl [0, 1, 2, 3] rfl (by decide +kernel)) rfl rfl hl.1 rfl (lv_room (Nat.le_of_ble_eq_true rfl)) dCo_find_110 ⟨Nat.le_of_ble_eq_true rfl, Nat.le_of_ble_eq_true rfl⟩) hP hD hS hA [0, 1, 2, 3] [4, 5, 6, 7, 8, 9, 10] rfl rfl (by decide +kernel) (by decide +kernel) (fun r_15 _ H locs hw_16 hP hD hS => ?_)
      subst r_15
      have hP : va_P D vwCl (wCo K h0 a0 o0 ++ wGr K h1 a1 o1) H := hP.sub [7, 8, 9, 10, 0, 1, 2, 3, 4, 5, 6] rfl
      have hD : va_D A (wCo K h0 a0 o0 ++ wGr K h1 a1 o1) := hD.sub [7, 8, 9, 10, 0, 1, 2, 3, 4, 5, 6] (by decide +kernel) rfl
      refine lv_aload_n hx hb dCo_find_113 rfl (lv_at hl 0 rfl) ?_
      refine lv_aload_n hx hb dCo_find_114 rfl (lv_at hl 1 rfl) ?_
      refine va_get (D := D) (ci := 3) (v := .ref (a1 5)) (C := RGr) (T := TGr) (N := 10) hx hb hts inGr hown hK hP 4 rfl rfl 5 (by decide) (hts _ wv_568) (fun _ h9 => h9) rfl dCo_find_115 ?_
      refine lv_iload hx hb dCo_find_118 (lv_at hl 3 rfl) ?_
      obtain ⟨hi_17, h⟩ := op_n h
      refine va_iald (D := D) hx hb hK hP 6 0 rfl rfl hi_17 dCo_find_120 ?_
      refine lv_topi (fun x_18 ex_18 => ?_)
      have h := op_ks ex_18 h
      obtain ⟨q_19, hq_19, h⟩ := op_b h
      refine cf_calli (wc := wCo K h0 a0 o0) (wr := wGr K h1 a1 o1) (va_runV (As := [.int x_18]) (rest := [.int q_14, .int v5, .ref (a0 4)]) ⟨hx, hb, hml, hown, hts⟩ (mCo_valueOf l D K _ x_18 h0 a0 o0 _ hq_19) (cwV 1 hts (cf_GV wv_1373 wv_1375 wv_43 wv_161 wv_1376) rfl rfl rfl (by decide +kernel) ⟨Nat.le_of_ble_eq_true rfl, Nat.le_of_ble_eq_true rfl⟩) (cf_preV (wc := wCo K h0 a0 o0) hE hP hD hS hA rfl 0 rfl [0, 1, 2, 3] rfl (by decide +kernel)) rfl rfl hl.1 rfl (lv_room (Nat.le_of_ble_eq_true rfl)) dCo_find_121 ⟨Nat.le_of_ble_eq_true rfl, Nat.le_of_ble_eq_true rfl⟩) hP hD hS hA [0, 1, 2, 3] [4, 5, 6, 7, 8, 9, 10] rfl rfl (by decide +kernel) (by decide +kernel) (fun r_20 _ H locs hw_21 hP hD hS => ?_)
      subst r_20
      have hP : va_P D vwCl (wCo K h0 a0 o0 ++ wGr K h1 a1 o1) H := hP.sub [7, 8, 9, 10, 0, 1, 2, 3, 4, 5, 6] rfl
      have hD : va_D A (wCo K h0 a0 o0 ++ wGr K h1 a1 o1) := hD.sub [7, 8, 9, 10, 0, 1, 2, 3, 4, 5, 6] (by decide +kernel) rfl
      refine lv_iand hx hb dCo_find_124 ?_
      refine lv_topi (fun x_22 ex_22 => ?_)
      have h := op_ks ex_22 h
      obtain ⟨hi_23, h⟩ := op_n h
      refine va_iast (D := D) hx hb hK hP hD hS 3 0 rfl rfl hi_23 dCo_find_125 (fun H locs hP hD hS => ?_)
      have hP : va_P D vwCl (wCo K h0 a0 (xp o0 4 v5.toNatClampNeg x_22) ++ wGr K h1 a1 o1) H := hP
      have hD : va_D A (wCo K h0 a0 (xp o0 4 v5.toNatClampNeg x_22) ++ wGr K h1 a1 o1) := hD
      obtain ⟨o_24, eo_24, h⟩ := op_kx h
      rw [← eo_24] at hP hD
      exact bCo_find_126 C ih _ _ _ _ _ h hP hD hS (lv_sub hl [0, 1, 2, 3] rfl)
set_option maxHeartbeats 4000000 in
set_option maxRecDepth 100000 in
theorem bCo_find_63 {p : Program} {l : Launch} {e : Env} {s : State} {m : MethodId} {below : List Frame} {meth : Method} {c : Code} {A : Nat → Prop} {D : va_G} {K : Nat → ClassId} {h0 : Nat} {a0 : Nat → Nat} {h1 : Nat} {a1 : Nat → Nat} {AR : Array Value} (C : (dc_C p s m AR meth c cCo_find 6 (Option.none : Option Jvm.ClassFile.FieldType) yCo_find ∧ cf_E D K A s s.heap ∧ ∀ q, s.heap.size ≤ q → A q)) {n : Nat} (ih : IhCo_find p l e s m below meth c A D K h0 a0 h1 a1 AR n) (v2 : Int32) (v5 : Int32) (o0 : cf_O) (o1 : cf_O) (r : cf_O) (h : fCo_find_63 (gCo_find n) v2 v5 o0 o1 = some r) {H : Heap} {locs : List Loc} {ls : Array Slot} (hP : va_P D vwCl (wCo K h0 a0 o0 ++ wGr K h1 a1 o1) H) (hD : va_D A (wCo K h0 a0 o0 ++ wGr K h1 a1 o1)) (hS : va_S A s.heap H locs) (hl : lv_has ls 6 [(0, .ref h0), (1, .ref h1), (2, .int v2), (5, .int v5)]) : W p l e ({ frames := 4, cells := 0, slots := 0, locals := 88 }) s m AR below meth c H locs 0 0 (MQ below (va_Qv (fun (_ : Unit) => True) (fun (_ : Unit) t => cf_At D A (wCo K h0 a0 r ++ wGr K h1 a1 o1) t) A) AR s 0 0 A) (F0 m 63 ls []) := by
  obtain ⟨⟨hx, hb, hr, hts, hown, hlocks, hin, hml⟩, hE, hA⟩ := id C
  have hK := hE.k
  obtain ⟨x_1, ex_1⟩ : ∃ y : Int32, y = v5 + (-1) := ⟨_, rfl⟩
  refine lv_iinc (v := x_1) (lv' := [(5, .int x_1), (0, .ref h0), (1, .ref h1), (2, .int v2)]) hx hb dCo_find_63 hl (k := 3) rfl (by rw [ex_1]; rfl) (by decide) rfl (fun ls hl => ?_)
  have h := op_ks ex_1 h
  refine lv_goto (tgt := 15) hx hb dCo_find_66 (by decide) ?_
  exact (ih.1) _ _ _ _ _ h hP hD hS (lv_sub hl [1, 2, 3, 0] rfl)
set_option maxHeartbeats 4000000 in
set_option maxRecDepth 100000 in
theorem bCo_find_15 {p : Program} {l : Launch} {e : Env} {s : State} {m : MethodId} {below : List Frame} {meth : Method} {c : Code} {A : Nat → Prop} {D : va_G} {K : Nat → ClassId} {h0 : Nat} {a0 : Nat → Nat} {h1 : Nat} {a1 : Nat → Nat} {AR : Array Value} (C : (dc_C p s m AR meth c cCo_find 6 (Option.none : Option Jvm.ClassFile.FieldType) yCo_find ∧ cf_E D K A s s.heap ∧ ∀ q, s.heap.size ≤ q → A q)) {n : Nat} (ih : IhCo_find p l e s m below meth c A D K h0 a0 h1 a1 AR n) (v2 : Int32) (v5 : Int32) (o0 : cf_O) (o1 : cf_O) (r : cf_O) (h : fCo_find_15 (gCo_find n) v2 v5 o0 o1 = some r) {H : Heap} {locs : List Loc} {ls : Array Slot} (hP : va_P D vwCl (wCo K h0 a0 o0 ++ wGr K h1 a1 o1) H) (hD : va_D A (wCo K h0 a0 o0 ++ wGr K h1 a1 o1)) (hS : va_S A s.heap H locs) (hl : lv_has ls 6 [(0, .ref h0), (1, .ref h1), (2, .int v2), (5, .int v5)]) : W p l e ({ frames := 4, cells := 0, slots := 0, locals := 88 }) s m AR below meth c H locs 0 0 (MQ below (va_Qv (fun (_ : Unit) => True) (fun (_ : Unit) t => cf_At D A (wCo K h0 a0 r ++ wGr K h1 a1 o1) t) A) AR s 0 0 A) (F0 m 15 ls []) := by
  obtain ⟨⟨hx, hb, hr, hts, hown, hlocks, hin, hml⟩, hE, hA⟩ := id C
  have hK := hE.k
  refine lv_iload hx hb dCo_find_15 (lv_at hl 3 rfl) ?_
  refine lv_aload_n hx hb dCo_find_17 rfl (lv_at hl 0 rfl) ?_
  refine va_get (D := D) (ci := 6) (v := .ref (a0 2)) (C := RCo) (T := TCo) (N := 5) hx hb hts inCo hown hK hP 0 rfl rfl 2 (by decide) (hts _ wv_298) (fun _ h9 => h9) rfl dCo_find_18 ?_
  refine lv_iconst (v := 0) hx hb dCo_find_21 (by decide) ?_
  obtain ⟨hi_1, h⟩ := op_n h
  refine va_iald (D := D) hx hb hK hP 1 0 rfl rfl hi_1 dCo_find_22 ?_
  refine lv_topi (fun x_2 ex_2 => ?_)
  have h := op_ks ex_2 h
  refine lv_icmp_le (tgt := 69) hx hb dCo_find_23 (by decide) (fun c_3 => ?_) (fun c_3 => ?_)
  · have h := op_t c_3 h
    refine lv_aload_n hx hb dCo_find_69 rfl (lv_at hl 0 rfl) ?_
    refine va_get (D := D) (ci := 6) (v := .ref (a0 2)) (C := RCo) (T := TCo) (N := 5) hx hb hts inCo hown hK hP 0 rfl rfl 2 (by decide) (hts _ wv_298) (fun _ h9 => h9) rfl dCo_find_70 ?_
    refine lv_iconst (v := 0) hx hb dCo_find_73 (by decide) ?_
    obtain ⟨hi_4, h⟩ := op_n h
    refine va_iald (D := D) hx hb hK hP 1 0 rfl rfl hi_4 dCo_find_74 ?_
    refine lv_topi (fun x_5 ex_5 => ?_)
    have h := op_ks ex_5 h
    refine lv_iconst (v := 1) hx hb dCo_find_75 (by decide) ?_
    refine lv_iadd hx hb dCo_find_76 ?_
    refine lv_topi (fun x_6 ex_6 => ?_)
    have h := op_ks ex_6 h
    refine lv_istore (lv' := [(5, .int x_6), (0, .ref h0), (1, .ref h1), (2, .int v2)]) hx hb dCo_find_77 hl (by decide) rfl (fun ls hl => ?_)
    exact (ih.2) _ _ _ _ _ h hP hD hS (lv_sub hl [1, 2, 3, 0] rfl)
  · have h := op_f c_3 h
    refine lv_aload_n hx hb dCo_find_26 rfl (lv_at hl 0 rfl) ?_
    refine va_get (D := D) (ci := 6) (v := .ref (a0 3)) (C := RCo) (T := TCo) (N := 5) hx hb hts inCo hown hK hP 0 rfl rfl 3 (by decide) (hts _ wv_301) (fun _ h9 => h9) rfl dCo_find_27 ?_
    refine lv_iload hx hb dCo_find_30 (lv_at hl 3 rfl) ?_
    obtain ⟨hi_7, h⟩ := op_n h
    refine va_iald (D := D) hx hb hK hP 2 0 rfl rfl hi_7 dCo_find_32 ?_
    refine lv_topi (fun x_8 ex_8 => ?_)
    have h := op_ks ex_8 h
    refine lv_iconst (v := 1) hx hb dCo_find_33 (by decide) ?_
    refine lv_icmp_ne (tgt := 63) hx hb dCo_find_34 (by decide) (fun c_9 => ?_) (fun c_9 => ?_)
    · have h := op_f c_9 h
      exact bCo_find_63 C ih _ _ _ _ _ h hP hD hS (lv_sub hl [0, 1, 2, 3] rfl)
    · have h := op_t c_9 h
      refine lv_aload_n hx hb dCo_find_37 rfl (lv_at hl 0 rfl) ?_
      refine lv_aload_n hx hb dCo_find_38 rfl (lv_at hl 1 rfl) ?_
      refine va_get (D := D) (ci := 3) (v := .ref (a1 4)) (C := RGr) (T := TGr) (N := 10) hx hb hts inGr hown hK hP 4 rfl rfl 4 (by decide) (hts _ wv_562) (fun _ h9 => h9) rfl dCo_find_39 ?_
      refine lv_iload hx hb dCo_find_42 (lv_at hl 3 rfl) ?_
      obtain ⟨hi_10, h⟩ := op_n h
      refine va_iald (D := D) hx hb hK hP 5 0 rfl rfl hi_10 dCo_find_44 ?_
      refine lv_topi (fun x_11 ex_11 => ?_)
      have h := op_ks ex_11 h
      refine lv_iconst (v := 1) hx hb dCo_find_45 (by decide) ?_
      refine lv_ishr hx hb dCo_find_46 ?_
      refine lv_topi (fun x_12 ex_12 => ?_)
      have h := op_ks ex_12 h
      obtain ⟨q_13, hq_13, h⟩ := op_b h
      refine cf_callv (wc := wCo K h0 a0 o0) (wr := wGr K h1 a1 o1) (va_runV (As := [.int x_12]) (rest := []) ⟨hx, hb, hml, hown, hts⟩ (mCo_reach l D K _ x_12 h0 a0 o0 _ hq_13) (cwV 1 hts (cf_GV wv_1369 wv_1371 wv_42 wv_161 wv_1372) rfl rfl rfl (by decide +kernel) ⟨Nat.le_of_ble_eq_true rfl, Nat.le_of_ble_eq_true rfl⟩) (cf_preV (wc := wCo K h0 a0 o0) hE hP hD hS hA rfl 0 rfl [0, 1, 2, 3] rfl (by decide +kernel)) rfl rfl hl.1 rfl (lv_room (Nat.le_of_ble_eq_true rfl)) dCo_find_47 ⟨Nat.le_of_ble_eq_true rfl, Nat.le_of_ble_eq_true rfl⟩) hP hD hS hA [0, 1, 2, 3] [4, 5, 6, 7, 8, 9, 10] rfl rfl (by decide +kernel) (by decide +kernel) (fun _ H locs hw_14 hP hD hS => ?_)
      have hP : va_P D vwCl (wCo K h0 a0 q_13 ++ wGr K h1 a1 o1) H := hP.sub [7, 8, 9, 10, 0, 1, 2, 3, 4, 5, 6] rfl
      have hD : va_D A (wCo K h0 a0 q_13 ++ wGr K h1 a1 o1) := hD.sub [7, 8, 9, 10, 0, 1, 2, 3, 4, 5, 6] (by decide +kernel) rfl
      refine lv_aload_n hx hb dCo_find_50 rfl (lv_at hl 0 rfl) ?_
      refine lv_aload_n hx hb dCo_find_51 rfl (lv_at hl 1 rfl) ?_
      refine va_get (D := D) (ci := 3) (v := .ref (a1 5)) (C := RGr) (T := TGr) (N := 10) hx hb hts inGr hown hK hP 4 rfl rfl 5 (by decide) (hts _ wv_568) (fun _ h9 => h9) rfl dCo_find_52 ?_
      refine lv_iload hx hb dCo_find_55 (lv_at hl 3 rfl) ?_
      obtain ⟨hi_15, h⟩ := op_n h
      refine va_iald (D := D) hx hb hK hP 6 0 rfl rfl hi_15 dCo_find_57 ?_
      refine lv_topi (fun x_16 ex_16 => ?_)
      have h := op_ks ex_16 h
      refine lv_iconst (v := 1) hx hb dCo_find_58 (by decide) ?_
      refine lv_ishr hx hb dCo_find_59 ?_
      refine lv_topi (fun x_17 ex_17 => ?_)
      have h := op_ks ex_17 h
      obtain ⟨q_18, hq_18, h⟩ := op_b h
      refine cf_callv (wc := wCo K h0 a0 q_13) (wr := wGr K h1 a1 o1) (va_runV (As := [.int x_17]) (rest := []) ⟨hx, hb, hml, hown, hts⟩ (mCo_reach l D K _ x_17 h0 a0 q_13 _ hq_18) (cwV 1 hts (cf_GV wv_1369 wv_1371 wv_42 wv_161 wv_1372) rfl rfl rfl (by decide +kernel) ⟨Nat.le_of_ble_eq_true rfl, Nat.le_of_ble_eq_true rfl⟩) (cf_preV (wc := wCo K h0 a0 q_13) hE hP hD hS hA rfl 0 rfl [0, 1, 2, 3] rfl (by decide +kernel)) rfl rfl hl.1 rfl (lv_room (Nat.le_of_ble_eq_true rfl)) dCo_find_60 ⟨Nat.le_of_ble_eq_true rfl, Nat.le_of_ble_eq_true rfl⟩) hP hD hS hA [0, 1, 2, 3] [4, 5, 6, 7, 8, 9, 10] rfl rfl (by decide +kernel) (by decide +kernel) (fun _ H locs hw_19 hP hD hS => ?_)
      have hP : va_P D vwCl (wCo K h0 a0 q_18 ++ wGr K h1 a1 o1) H := hP.sub [7, 8, 9, 10, 0, 1, 2, 3, 4, 5, 6] rfl
      have hD : va_D A (wCo K h0 a0 q_18 ++ wGr K h1 a1 o1) := hD.sub [7, 8, 9, 10, 0, 1, 2, 3, 4, 5, 6] (by decide +kernel) rfl
      exact bCo_find_63 C ih _ _ _ _ _ h hP hD hS (lv_sub hl [0, 1, 2, 3] rfl)
set_option maxHeartbeats 4000000 in
set_option maxRecDepth 100000 in
theorem bCo_find_0 {p : Program} {l : Launch} {e : Env} {s : State} {m : MethodId} {below : List Frame} {meth : Method} {c : Code} {A : Nat → Prop} {D : va_G} {K : Nat → ClassId} {h0 : Nat} {a0 : Nat → Nat} {h1 : Nat} {a1 : Nat → Nat} {AR : Array Value} (C : (dc_C p s m AR meth c cCo_find 6 (Option.none : Option Jvm.ClassFile.FieldType) yCo_find ∧ cf_E D K A s s.heap ∧ ∀ q, s.heap.size ≤ q → A q)) {n : Nat} (ih : IhCo_find p l e s m below meth c A D K h0 a0 h1 a1 AR n) (v2 : Int32) (v3 : Int64) (o0 : cf_O) (o1 : cf_O) (r : cf_O) (h : fCo_find_0 (gCo_find n) v2 v3 o0 o1 = some r) {H : Heap} {locs : List Loc} {ls : Array Slot} (hP : va_P D vwCl (wCo K h0 a0 o0 ++ wGr K h1 a1 o1) H) (hD : va_D A (wCo K h0 a0 o0 ++ wGr K h1 a1 o1)) (hS : va_S A s.heap H locs) (hl : lv_has ls 6 [(0, .ref h0), (1, .ref h1), (2, .int v2), (3, .long v3)]) : W p l e ({ frames := 4, cells := 0, slots := 0, locals := 88 }) s m AR below meth c H locs 0 0 (MQ below (va_Qv (fun (_ : Unit) => True) (fun (_ : Unit) t => cf_At D A (wCo K h0 a0 r ++ wGr K h1 a1 o1) t) A) AR s 0 0 A) (F0 m 0 ls []) := by
  obtain ⟨⟨hx, hb, hr, hts, hown, hlocks, hin, hml⟩, hE, hA⟩ := id C
  have hK := hE.k
  refine lv_aload_n hx hb dCo_find_0 rfl (lv_at hl 0 rfl) ?_
  refine lv_lload_n hx hb dCo_find_1 rfl (lv_at hl 3 rfl) ?_
  obtain ⟨q_1, hq_1, h⟩ := op_b h
  refine cf_callv (wc := wCo K h0 a0 o0) (wr := wGr K h1 a1 o1) (va_runV (As := [.long v3]) (rest := []) ⟨hx, hb, hml, hown, hts⟩ (mCo_takeCut l D K _ v3 h0 a0 o0 _ hq_1) (cwV 1 hts (cf_GV wv_1353 wv_1355 wv_41 wv_161 wv_1356) rfl rfl rfl (by decide +kernel) ⟨Nat.le_of_ble_eq_true rfl, Nat.le_of_ble_eq_true rfl⟩) (cf_preV (wc := wCo K h0 a0 o0) hE hP hD hS hA rfl 0 rfl [0, 1, 2, 3] rfl (by decide +kernel)) rfl rfl hl.1 rfl (lv_room (Nat.le_of_ble_eq_true rfl)) dCo_find_2 ⟨Nat.le_of_ble_eq_true rfl, Nat.le_of_ble_eq_true rfl⟩) hP hD hS hA [0, 1, 2, 3] [4, 5, 6, 7, 8, 9, 10] rfl rfl (by decide +kernel) (by decide +kernel) (fun _ H locs hw_2 hP hD hS => ?_)
  have hP : va_P D vwCl (wCo K h0 a0 q_1 ++ wGr K h1 a1 o1) H := hP.sub [7, 8, 9, 10, 0, 1, 2, 3, 4, 5, 6] rfl
  have hD : va_D A (wCo K h0 a0 q_1 ++ wGr K h1 a1 o1) := hD.sub [7, 8, 9, 10, 0, 1, 2, 3, 4, 5, 6] (by decide +kernel) rfl
  refine lv_aload_n hx hb dCo_find_5 rfl (lv_at hl 0 rfl) ?_
  refine va_get (D := D) (ci := 6) (v := .ref (a0 3)) (C := RCo) (T := TCo) (N := 5) hx hb hts inCo hown hK hP 0 rfl rfl 3 (by decide) (hts _ wv_301) (fun _ h9 => h9) rfl dCo_find_6 ?_
  refine lv_iload_n hx hb dCo_find_9 rfl (lv_at hl 2 rfl) ?_
  refine lv_iconst (v := 1) hx hb dCo_find_10 (by decide) ?_
  obtain ⟨hi_3, h⟩ := op_n h
  refine va_iast (D := D) hx hb hK hP hD hS 2 0 rfl rfl hi_3 dCo_find_11 (fun H locs hP hD hS => ?_)
  have hP : va_P D vwCl (wCo K h0 a0 (xp q_1 3 v2.toNatClampNeg 1) ++ wGr K h1 a1 o1) H := hP
  have hD : va_D A (wCo K h0 a0 (xp q_1 3 v2.toNatClampNeg 1) ++ wGr K h1 a1 o1) := hD
  obtain ⟨o_4, eo_4, h⟩ := op_kx h
  rw [← eo_4] at hP hD
  refine lv_iload_n hx hb dCo_find_12 rfl (lv_at hl 2 rfl) ?_
  refine lv_istore (lv' := [(5, .int v2), (0, .ref h0), (1, .ref h1), (2, .int v2), (3, .long v3)]) hx hb dCo_find_13 hl (by decide) rfl (fun ls hl => ?_)
  exact (ih.1) _ _ _ _ _ h hP hD hS (lv_sub hl [1, 2, 3, 0] rfl)
theorem iCo_find {p : Program} {l : Launch} {e : Env} {s : State} {m : MethodId} {below : List Frame} {meth : Method} {c : Code} {A : Nat → Prop} {D : va_G} {K : Nat → ClassId} {h0 : Nat} {a0 : Nat → Nat} {h1 : Nat} {a1 : Nat → Nat} {AR : Array Value} (C : (dc_C p s m AR meth c cCo_find 6 (Option.none : Option Jvm.ClassFile.FieldType) yCo_find ∧ cf_E D K A s s.heap ∧ ∀ q, s.heap.size ≤ q → A q)) : ∀ n, IhCo_find p l e s m below meth c A D K h0 a0 h1 a1 AR n := by
  intro n
  induction n with
  | zero => exact ⟨(fun _ _ _ _ r h => by cases (show none = some r from h)), (fun _ _ _ _ r h => by cases (show none = some r from h))⟩
  | succ n ih => exact ⟨fun x0 x1 x2 x3 r h _ _ _ hP hD hS hl => bCo_find_15 C ih x0 x1 x2 x3 r h hP hD hS hl, fun x0 x1 x2 x3 r h _ _ _ hP hD hS hl => bCo_find_79 C ih x0 x1 x2 x3 r h hP hD hS hl⟩
set_option maxRecDepth 100000 in
theorem mCo_find (l : Launch) (D : va_G) (K : Nat → ClassId) (sz : Nat) (v2 : Int32) (v3 : Int64) (h0 : Nat) (a0 : Nat → Nat) (h1 : Nat) (a1 : Nat → Nat) (o0 : cf_O) (o1 : cf_O) (r : cf_O) (h : fCo_find v2 v3 o0 o1 = some r) : Met l yCo_find (Cond.code yCo_find cCo_find 6 (Option.none : Option Jvm.ClassFile.FieldType) :: cfB) ({ frames := 4, cells := 0, slots := 0, locals := 88 }) (va_Pc [.ref h0, .ref h1, .int v2, .long v3] (cf_Pre D K sz (wCo K h0 a0 o0 ++ wGr K h1 a1 o1))) (va_Qv (fun (_ : Unit) => True) (fun (_ : Unit) t => cf_At D (va_A (wCo K h0 a0 o0 ++ wGr K h1 a1 o1) sz) (wCo K h0 a0 r ++ wGr K h1 a1 o1) t) (va_A (wCo K h0 a0 o0 ++ wGr K h1 a1 o1) sz)) 0 0 (va_A (wCo K h0 a0 o0 ++ wGr K h1 a1 o1) sz) := by
  refine cf_ofW (y := yCo_find) (As := [.ref h0, .ref h1, .int v2, .long v3]) (WS := wCo K h0 a0 o0 ++ wGr K h1 a1 o1) (maxL := 6) (fun A => (va_Qv (fun (_ : Unit) => True) (fun (_ : Unit) t => cf_At D A (wCo K h0 a0 r ++ wGr K h1 a1 o1) t) A)) (by decide) (Nat.le_of_ble_eq_true rfl) ?_
  intro p e s m below meth c A ls En hsz hA hP hD hE hS hl
  have C : (dc_C p s m (([.ref h0, .ref h1, .int v2, .long v3] : List Value).toArray) meth c cCo_find 6 (Option.none : Option Jvm.ClassFile.FieldType) yCo_find ∧ cf_E D K A s s.heap ∧ ∀ q, s.heap.size ≤ q → A q) := ⟨En, hE, hA⟩
  exact bCo_find_0 C (iCo_find C cfFU) v2 v3 o0 o1 r h hP hD hS hl
set_option maxHeartbeats 4000000 in
set_option maxRecDepth 100000 in
theorem bCv_cutOf_0 {p : Program} {l : Launch} {e : Env} {s : State} {m : MethodId} {below : List Frame} {meth : Method} {c : Code} {A : Nat → Prop} {D : va_G} {K : Nat → ClassId} {h0 : Nat} {a0 : Nat → Nat} {AR : Array Value} (C : (dc_C p s m AR meth c cCv_cutOf 2 (Option.some Jvm.ClassFile.FieldType.long) yCv_cutOf ∧ cf_E D K A s s.heap ∧ ∀ q, s.heap.size ≤ q → A q)) (v1 : Int32) (o0 : cf_O) (r : Int64) (h : fCv_cutOf_0 v1 o0 = some r) {H : Heap} {locs : List Loc} {ls : Array Slot} (hP : va_P D vwCl (wCv K h0 a0 o0) H) (hD : va_D A (wCv K h0 a0 o0)) (hS : va_S A s.heap H locs) (hl : lv_has ls 2 [(0, .ref h0), (1, .int v1)]) : W p l e ({ frames := 0, cells := 0, slots := 0, locals := 0 }) s m AR below meth c H locs 0 0 (MQ below (va_Ql (fun (x : Int64) (_ : Unit) => x = r) (fun (_ : Unit) t => cf_At D A (wCv K h0 a0 o0) t) A) AR s 0 0 A) (F0 m 0 ls []) := by
  obtain ⟨⟨hx, hb, hr, hts, hown, hlocks, hin, hml⟩, hE, hA⟩ := id C
  have hK := hE.k
  refine lv_aload_n hx hb dCv_cutOf_0 rfl (lv_at hl 0 rfl) ?_
  refine va_get (D := D) (ci := 8) (v := .ref (a0 5)) (C := RCv) (T := TCv) (N := 7) hx hb hts inCv hown hK hP 0 rfl rfl 5 (by decide) (hts _ wv_379) (fun _ h9 => h9) rfl dCv_cutOf_1 ?_
  refine lv_aload_n hx hb dCv_cutOf_4 rfl (lv_at hl 0 rfl) ?_
  refine va_get (D := D) (ci := 8) (v := .ref (a0 2)) (C := RCv) (T := TCv) (N := 7) hx hb hts inCv hown hK hP 0 rfl rfl 2 (by decide) (hts _ wv_373) (fun _ h9 => h9) rfl dCv_cutOf_5 ?_
  refine lv_iload_n hx hb dCv_cutOf_8 rfl (lv_at hl 1 rfl) ?_
  obtain ⟨hi_1, h⟩ := op_n h
  refine va_iald (D := D) hx hb hK hP 1 0 rfl rfl hi_1 dCv_cutOf_9 ?_
  refine lv_topi (fun x_2 ex_2 => ?_)
  have h := op_ks ex_2 h
  obtain ⟨hi_3, h⟩ := op_n h
  refine va_lald (D := D) hx hb hK hP 4 1 rfl rfl hi_3 dCv_cutOf_10 ?_
  refine lv_topl (fun x_4 ex_4 => ?_)
  have h := op_ks ex_4 h
  obtain rfl := Option.some.inj h
  exact dc_lret hx hb hr hlocks rfl hP hD hS dCv_cutOf_11
set_option maxRecDepth 100000 in
theorem mCv_cutOf (l : Launch) (D : va_G) (K : Nat → ClassId) (sz : Nat) (v1 : Int32) (h0 : Nat) (a0 : Nat → Nat) (o0 : cf_O) (r : Int64) (h : fCv_cutOf v1 o0 = some r) : Met l yCv_cutOf (Cond.code yCv_cutOf cCv_cutOf 2 (Option.some Jvm.ClassFile.FieldType.long) :: cfB) ({ frames := 0, cells := 0, slots := 0, locals := 0 }) (va_Pc [.ref h0, .int v1] (cf_Pre D K sz (wCv K h0 a0 o0))) (va_Ql (fun (x : Int64) (_ : Unit) => x = r) (fun (_ : Unit) t => cf_At D (va_A (wCv K h0 a0 o0) sz) (wCv K h0 a0 o0) t) (va_A (wCv K h0 a0 o0) sz)) 0 0 (va_A (wCv K h0 a0 o0) sz) := by
  refine cf_ofW (y := yCv_cutOf) (As := [.ref h0, .int v1]) (WS := wCv K h0 a0 o0) (maxL := 2) (fun A => (va_Ql (fun (x : Int64) (_ : Unit) => x = r) (fun (_ : Unit) t => cf_At D A (wCv K h0 a0 o0) t) A)) (by decide) (Nat.le_of_ble_eq_true rfl) ?_
  intro p e s m below meth c A ls En hsz hA hP hD hE hS hl
  have C : (dc_C p s m (([.ref h0, .int v1] : List Value).toArray) meth c cCv_cutOf 2 (Option.some Jvm.ClassFile.FieldType.long) yCv_cutOf ∧ cf_E D K A s s.heap ∧ ∀ q, s.heap.size ≤ q → A q) := ⟨En, hE, hA⟩
  exact bCv_cutOf_0 C v1 o0 r h hP hD hS hl
def IhJArrays_fill_AII_Cv6 (p : Program) (l : Launch) (e : Env) (s : State) (m : MethodId) (below : List Frame) (meth : Method) (c : Code) (A : Nat → Prop) (D : va_G) (K : Nat → ClassId) (h0 : Nat) (a0 : Nat → Nat) (AR : Array Value) (n : Nat) : Prop := (∀ (v1 : Int32) (v2 : Int32) (v3 : Int32) (o0 : cf_O) (r : cf_O), gJArrays_fill_AII_Cv6 n 0 v1 v2 v3 o0 = some r → ∀ {H : Heap} {locs : List Loc} {ls : Array Slot}, (va_P D vwCl (wCv K h0 a0 o0) H) → (va_D A (wCv K h0 a0 o0)) → va_S A s.heap H locs → lv_has ls 4 [(0, .ref (a0 6)), (1, .int v1), (2, .int v2), (3, .int v3)] → W p l e ({ frames := 0, cells := 0, slots := 0, locals := 0 }) s m AR below meth c H locs 0 0 (MQ below (va_Qv (fun (_ : Unit) => True) (fun (_ : Unit) t => cf_At D A (wCv K h0 a0 r) t) A) AR s 0 0 A) (F0 m 5 ls []))
set_option maxHeartbeats 4000000 in
set_option maxRecDepth 100000 in
theorem bJArrays_fill_AII_Cv6_5 {p : Program} {l : Launch} {e : Env} {s : State} {m : MethodId} {below : List Frame} {meth : Method} {c : Code} {A : Nat → Prop} {D : va_G} {K : Nat → ClassId} {h0 : Nat} {a0 : Nat → Nat} {AR : Array Value} (C : (dc_C p s m AR meth c cJArrays_fill_AII 4 (Option.none : Option Jvm.ClassFile.FieldType) yJArrays_fill_AII ∧ cf_E D K A s s.heap ∧ ∀ q, s.heap.size ≤ q → A q)) {n : Nat} (ih : IhJArrays_fill_AII_Cv6 p l e s m below meth c A D K h0 a0 AR n) (v1 : Int32) (v2 : Int32) (v3 : Int32) (o0 : cf_O) (r : cf_O) (h : fJArrays_fill_AII_Cv6_5 (gJArrays_fill_AII_Cv6 n) v1 v2 v3 o0 = some r) {H : Heap} {locs : List Loc} {ls : Array Slot} (hP : va_P D vwCl (wCv K h0 a0 o0) H) (hD : va_D A (wCv K h0 a0 o0)) (hS : va_S A s.heap H locs) (hl : lv_has ls 4 [(0, .ref (a0 6)), (1, .int v1), (2, .int v2), (3, .int v3)]) : W p l e ({ frames := 0, cells := 0, slots := 0, locals := 0 }) s m AR below meth c H locs 0 0 (MQ below (va_Qv (fun (_ : Unit) => True) (fun (_ : Unit) t => cf_At D A (wCv K h0 a0 r) t) A) AR s 0 0 A) (F0 m 5 ls []) := by
  obtain ⟨⟨hx, hb, hr, hts, hown, hlocks, hin, hml⟩, hE, hA⟩ := id C
  have hK := hE.k
  refine lv_iload_n hx hb dJArrays_fill_AII_5 rfl (lv_at hl 2 rfl) ?_
  refine lv_iload_n hx hb dJArrays_fill_AII_6 rfl (lv_at hl 3 rfl) ?_
  refine lv_icmp_ge (tgt := 20) hx hb dJArrays_fill_AII_7 (by decide) (fun c_1 => ?_) (fun c_1 => ?_)
  · have h := op_t c_1 h
    obtain rfl := Option.some.inj h
    exact dc_vret hx hb hr hlocks rfl hP hD hS dJArrays_fill_AII_20
  · have h := op_f c_1 h
    refine lv_aload_n hx hb dJArrays_fill_AII_10 rfl (lv_at hl 0 rfl) ?_
    refine lv_iload_n hx hb dJArrays_fill_AII_11 rfl (lv_at hl 2 rfl) ?_
    refine lv_iload_n hx hb dJArrays_fill_AII_12 rfl (lv_at hl 1 rfl) ?_
    obtain ⟨hi_2, h⟩ := op_n h
    refine va_iast (D := D) hx hb hK hP hD hS 5 0 rfl rfl hi_2 dJArrays_fill_AII_13 (fun H locs hP hD hS => ?_)
    have hP : va_P D vwCl (wCv K h0 a0 (xp o0 6 v2.toNatClampNeg v1)) H := hP
    have hD : va_D A (wCv K h0 a0 (xp o0 6 v2.toNatClampNeg v1)) := hD
    obtain ⟨o_3, eo_3, h⟩ := op_kx h
    rw [← eo_3] at hP hD
    obtain ⟨x_4, ex_4⟩ : ∃ y : Int32, y = v2 + 1 := ⟨_, rfl⟩
    refine lv_iinc (v := x_4) (lv' := [(2, .int x_4), (0, .ref (a0 6)), (1, .int v1), (3, .int v3)]) hx hb dJArrays_fill_AII_14 hl (k := 2) rfl (by rw [ex_4]; rfl) (by decide) rfl (fun ls hl => ?_)
    have h := op_ks ex_4 h
    refine lv_goto (tgt := 5) hx hb dJArrays_fill_AII_17 (by decide) ?_
    exact (ih) _ _ _ _ _ h hP hD hS (lv_sub hl [1, 2, 0, 3] rfl)
set_option maxHeartbeats 4000000 in
set_option maxRecDepth 100000 in
theorem bJArrays_fill_AII_Cv6_0 {p : Program} {l : Launch} {e : Env} {s : State} {m : MethodId} {below : List Frame} {meth : Method} {c : Code} {A : Nat → Prop} {D : va_G} {K : Nat → ClassId} {h0 : Nat} {a0 : Nat → Nat} {AR : Array Value} (C : (dc_C p s m AR meth c cJArrays_fill_AII 4 (Option.none : Option Jvm.ClassFile.FieldType) yJArrays_fill_AII ∧ cf_E D K A s s.heap ∧ ∀ q, s.heap.size ≤ q → A q)) {n : Nat} (ih : IhJArrays_fill_AII_Cv6 p l e s m below meth c A D K h0 a0 AR n) (v1 : Int32) (o0 : cf_O) (r : cf_O) (h : fJArrays_fill_AII_Cv6_0 (gJArrays_fill_AII_Cv6 n) v1 o0 = some r) {H : Heap} {locs : List Loc} {ls : Array Slot} (hP : va_P D vwCl (wCv K h0 a0 o0) H) (hD : va_D A (wCv K h0 a0 o0)) (hS : va_S A s.heap H locs) (hl : lv_has ls 4 [(0, .ref (a0 6)), (1, .int v1)]) : W p l e ({ frames := 0, cells := 0, slots := 0, locals := 0 }) s m AR below meth c H locs 0 0 (MQ below (va_Qv (fun (_ : Unit) => True) (fun (_ : Unit) t => cf_At D A (wCv K h0 a0 r) t) A) AR s 0 0 A) (F0 m 0 ls []) := by
  obtain ⟨⟨hx, hb, hr, hts, hown, hlocks, hin, hml⟩, hE, hA⟩ := id C
  have hK := hE.k
  refine lv_iconst (v := 0) hx hb dJArrays_fill_AII_0 (by decide) ?_
  refine lv_istore_n (lv' := [(2, .int 0), (0, .ref (a0 6)), (1, .int v1)]) hx hb dJArrays_fill_AII_1 rfl hl (by decide) rfl (fun ls hl => ?_)
  refine lv_aload_n hx hb dJArrays_fill_AII_2 rfl (lv_at hl 1 rfl) ?_
  refine va_alen (D := D) (v := 209) hx hb hK hP 5 0 rfl rfl rfl dJArrays_fill_AII_3 ?_
  refine lv_istore_n (lv' := [(3, .int 209), (2, .int 0), (0, .ref (a0 6)), (1, .int v1)]) hx hb dJArrays_fill_AII_4 rfl hl (by decide) rfl (fun ls hl => ?_)
  exact (ih) _ _ _ _ _ h hP hD hS (lv_sub hl [2, 3, 1, 0] rfl)
theorem iJArrays_fill_AII_Cv6 {p : Program} {l : Launch} {e : Env} {s : State} {m : MethodId} {below : List Frame} {meth : Method} {c : Code} {A : Nat → Prop} {D : va_G} {K : Nat → ClassId} {h0 : Nat} {a0 : Nat → Nat} {AR : Array Value} (C : (dc_C p s m AR meth c cJArrays_fill_AII 4 (Option.none : Option Jvm.ClassFile.FieldType) yJArrays_fill_AII ∧ cf_E D K A s s.heap ∧ ∀ q, s.heap.size ≤ q → A q)) : ∀ n, IhJArrays_fill_AII_Cv6 p l e s m below meth c A D K h0 a0 AR n := by
  intro n
  induction n with
  | zero => exact (fun _ _ _ _ r h => by cases (show none = some r from h))
  | succ n ih => exact fun x0 x1 x2 x3 r h _ _ _ hP hD hS hl => bJArrays_fill_AII_Cv6_5 C ih x0 x1 x2 x3 r h hP hD hS hl
set_option maxRecDepth 100000 in
theorem mJArrays_fill_AII_Cv6 (l : Launch) (D : va_G) (K : Nat → ClassId) (sz : Nat) (v1 : Int32) (h0 : Nat) (a0 : Nat → Nat) (o0 : cf_O) (r : cf_O) (h : fJArrays_fill_AII_Cv6 v1 o0 = some r) : Met l yJArrays_fill_AII (Cond.code yJArrays_fill_AII cJArrays_fill_AII 4 (Option.none : Option Jvm.ClassFile.FieldType) :: cfB) ({ frames := 0, cells := 0, slots := 0, locals := 0 }) (va_Pc [.ref (a0 6), .int v1] (cf_Pre D K sz (wCv K h0 a0 o0))) (va_Qv (fun (_ : Unit) => True) (fun (_ : Unit) t => cf_At D (va_A (wCv K h0 a0 o0) sz) (wCv K h0 a0 r) t) (va_A (wCv K h0 a0 o0) sz)) 0 0 (va_A (wCv K h0 a0 o0) sz) := by
  refine cf_ofW (y := yJArrays_fill_AII) (As := [.ref (a0 6), .int v1]) (WS := wCv K h0 a0 o0) (maxL := 4) (fun A => (va_Qv (fun (_ : Unit) => True) (fun (_ : Unit) t => cf_At D A (wCv K h0 a0 r) t) A)) (by decide) (Nat.le_of_ble_eq_true rfl) ?_
  intro p e s m below meth c A ls En hsz hA hP hD hE hS hl
  have C : (dc_C p s m (([.ref (a0 6), .int v1] : List Value).toArray) meth c cJArrays_fill_AII 4 (Option.none : Option Jvm.ClassFile.FieldType) yJArrays_fill_AII ∧ cf_E D K A s s.heap ∧ ∀ q, s.heap.size ≤ q → A q) := ⟨En, hE, hA⟩
  exact bJArrays_fill_AII_Cv6_0 C (iJArrays_fill_AII_Cv6 C cfFU) v1 o0 r h hP hD hS hl
set_option maxHeartbeats 4000000 in
set_option maxRecDepth 100000 in
theorem bGr_size_0 {p : Program} {l : Launch} {e : Env} {s : State} {m : MethodId} {below : List Frame} {meth : Method} {c : Code} {A : Nat → Prop} {D : va_G} {K : Nat → ClassId} {h0 : Nat} {a0 : Nat → Nat} {AR : Array Value} (C : (dc_C p s m AR meth c cGr_size 1 (Option.some Jvm.ClassFile.FieldType.int) yGr_size ∧ cf_E D K A s s.heap ∧ ∀ q, s.heap.size ≤ q → A q)) (o0 : cf_O) (r : Int32) (h : fGr_size_0 o0 = some r) {H : Heap} {locs : List Loc} {ls : Array Slot} (hP : va_P D vwCl (wGr K h0 a0 o0) H) (hD : va_D A (wGr K h0 a0 o0)) (hS : va_S A s.heap H locs) (hl : lv_has ls 1 [(0, .ref h0)]) : W p l e ({ frames := 0, cells := 0, slots := 0, locals := 0 }) s m AR below meth c H locs 0 0 (MQ below (va_Qi (fun (x : Int32) (_ : Unit) => x = r) (fun (_ : Unit) t => cf_At D A (wGr K h0 a0 o0) t) A) AR s 0 0 A) (F0 m 0 ls []) := by
  obtain ⟨⟨hx, hb, hr, hts, hown, hlocks, hin, hml⟩, hE, hA⟩ := id C
  have hK := hE.k
  refine lv_iconst (v := 1) hx hb dGr_size_0 (by decide) ?_
  refine lv_aload_n hx hb dGr_size_1 rfl (lv_at hl 0 rfl) ?_
  refine va_get (D := D) (ci := 3) (v := .int (o0.1 0)) (C := RGr) (T := TGr) (N := 10) hx hb hts inGr hown hK hP 0 rfl rfl 0 (by decide) (hts _ wv_546) (fun _ h9 => h9) rfl dGr_size_2 ?_
  refine lv_iadd hx hb dGr_size_5 ?_
  refine lv_topi (fun x_1 ex_1 => ?_)
  have h := op_ks ex_1 h
  refine lv_aload_n hx hb dGr_size_6 rfl (lv_at hl 0 rfl) ?_
  refine va_get (D := D) (ci := 3) (v := .int (o0.1 2)) (C := RGr) (T := TGr) (N := 10) hx hb hts inGr hown hK hP 0 rfl rfl 2 (by decide) (hts _ wv_556) (fun _ h9 => h9) rfl dGr_size_7 ?_
  refine lv_iadd hx hb dGr_size_10 ?_
  refine lv_topi (fun x_2 ex_2 => ?_)
  have h := op_ks ex_2 h
  obtain rfl := Option.some.inj h
  exact dc_iret hx hb hr hlocks rfl hP hD hS dGr_size_11
set_option maxRecDepth 100000 in
theorem mGr_size (l : Launch) (D : va_G) (K : Nat → ClassId) (sz : Nat) (h0 : Nat) (a0 : Nat → Nat) (o0 : cf_O) (r : Int32) (h : fGr_size o0 = some r) : Met l yGr_size (Cond.code yGr_size cGr_size 1 (Option.some Jvm.ClassFile.FieldType.int) :: cfB) ({ frames := 0, cells := 0, slots := 0, locals := 0 }) (va_Pc [.ref h0] (cf_Pre D K sz (wGr K h0 a0 o0))) (va_Qi (fun (x : Int32) (_ : Unit) => x = r) (fun (_ : Unit) t => cf_At D (va_A (wGr K h0 a0 o0) sz) (wGr K h0 a0 o0) t) (va_A (wGr K h0 a0 o0) sz)) 0 0 (va_A (wGr K h0 a0 o0) sz) := by
  refine cf_ofW (y := yGr_size) (As := [.ref h0]) (WS := wGr K h0 a0 o0) (maxL := 1) (fun A => (va_Qi (fun (x : Int32) (_ : Unit) => x = r) (fun (_ : Unit) t => cf_At D A (wGr K h0 a0 o0) t) A)) (by decide) (Nat.le_of_ble_eq_true rfl) ?_
  intro p e s m below meth c A ls En hsz hA hP hD hE hS hl
  have C : (dc_C p s m (([.ref h0] : List Value).toArray) meth c cGr_size 1 (Option.some Jvm.ClassFile.FieldType.int) yGr_size ∧ cf_E D K A s s.heap ∧ ∀ q, s.heap.size ≤ q → A q) := ⟨En, hE, hA⟩
  exact bGr_size_0 C o0 r h hP hD hS hl
set_option maxHeartbeats 4000000 in
set_option maxRecDepth 100000 in
theorem bGr_isGate_21 {p : Program} {l : Launch} {e : Env} {s : State} {m : MethodId} {below : List Frame} {meth : Method} {c : Code} {A : Nat → Prop} {D : va_G} {K : Nat → ClassId} {h0 : Nat} {a0 : Nat → Nat} {AR : Array Value} (C : (dc_C p s m AR meth c cGr_isGate 2 (Option.some Jvm.ClassFile.FieldType.boolean) yGr_isGate ∧ cf_E D K A s s.heap ∧ ∀ q, s.heap.size ≤ q → A q)) (s0 : Int32) (o0 : cf_O) (r : Int32) (h : fGr_isGate_21 s0 o0 = some r) {H : Heap} {locs : List Loc} {ls : Array Slot} (hP : va_P D vwCl (wGr K h0 a0 o0) H) (hD : va_D A (wGr K h0 a0 o0)) (hS : va_S A s.heap H locs) (hl : lv_has ls 2 []) : W p l e ({ frames := 1, cells := 0, slots := 0, locals := 20 }) s m AR below meth c H locs 0 0 (MQ below (va_Qi (fun (x : Int32) (_ : Unit) => x = r) (fun (_ : Unit) t => cf_At D A (wGr K h0 a0 o0) t) A) AR s 0 0 A) (F0 m 21 ls [.int s0]) := by
  obtain ⟨⟨hx, hb, hr, hts, hown, hlocks, hin, hml⟩, hE, hA⟩ := id C
  have hK := hE.k
  obtain ⟨hz_1, h⟩ := op_w h
  obtain rfl := Option.some.inj h
  exact dc_zret hx hb hr (op_z hz_1) hlocks rfl hP hD hS dGr_isGate_21
set_option maxHeartbeats 4000000 in
set_option maxRecDepth 100000 in
theorem bGr_isGate_20 {p : Program} {l : Launch} {e : Env} {s : State} {m : MethodId} {below : List Frame} {meth : Method} {c : Code} {A : Nat → Prop} {D : va_G} {K : Nat → ClassId} {h0 : Nat} {a0 : Nat → Nat} {AR : Array Value} (C : (dc_C p s m AR meth c cGr_isGate 2 (Option.some Jvm.ClassFile.FieldType.boolean) yGr_isGate ∧ cf_E D K A s s.heap ∧ ∀ q, s.heap.size ≤ q → A q)) (o0 : cf_O) (r : Int32) (h : fGr_isGate_20 o0 = some r) {H : Heap} {locs : List Loc} {ls : Array Slot} (hP : va_P D vwCl (wGr K h0 a0 o0) H) (hD : va_D A (wGr K h0 a0 o0)) (hS : va_S A s.heap H locs) (hl : lv_has ls 2 []) : W p l e ({ frames := 1, cells := 0, slots := 0, locals := 20 }) s m AR below meth c H locs 0 0 (MQ below (va_Qi (fun (x : Int32) (_ : Unit) => x = r) (fun (_ : Unit) t => cf_At D A (wGr K h0 a0 o0) t) A) AR s 0 0 A) (F0 m 20 ls []) := by
  obtain ⟨⟨hx, hb, hr, hts, hown, hlocks, hin, hml⟩, hE, hA⟩ := id C
  have hK := hE.k
  refine lv_iconst (v := 0) hx hb dGr_isGate_20 (by decide) ?_
  exact bGr_isGate_21 C _ _ _ h hP hD hS (lv_sub hl [] rfl)
set_option maxHeartbeats 4000000 in
set_option maxRecDepth 100000 in
theorem bGr_isGate_0 {p : Program} {l : Launch} {e : Env} {s : State} {m : MethodId} {below : List Frame} {meth : Method} {c : Code} {A : Nat → Prop} {D : va_G} {K : Nat → ClassId} {h0 : Nat} {a0 : Nat → Nat} {AR : Array Value} (C : (dc_C p s m AR meth c cGr_isGate 2 (Option.some Jvm.ClassFile.FieldType.boolean) yGr_isGate ∧ cf_E D K A s s.heap ∧ ∀ q, s.heap.size ≤ q → A q)) (v1 : Int32) (o0 : cf_O) (r : Int32) (h : fGr_isGate_0 v1 o0 = some r) {H : Heap} {locs : List Loc} {ls : Array Slot} (hP : va_P D vwCl (wGr K h0 a0 o0) H) (hD : va_D A (wGr K h0 a0 o0)) (hS : va_S A s.heap H locs) (hl : lv_has ls 2 [(0, .ref h0), (1, .int v1)]) : W p l e ({ frames := 1, cells := 0, slots := 0, locals := 20 }) s m AR below meth c H locs 0 0 (MQ below (va_Qi (fun (x : Int32) (_ : Unit) => x = r) (fun (_ : Unit) t => cf_At D A (wGr K h0 a0 o0) t) A) AR s 0 0 A) (F0 m 0 ls []) := by
  obtain ⟨⟨hx, hb, hr, hts, hown, hlocks, hin, hml⟩, hE, hA⟩ := id C
  have hK := hE.k
  refine lv_iload_n hx hb dGr_isGate_0 rfl (lv_at hl 1 rfl) ?_
  refine lv_aload_n hx hb dGr_isGate_1 rfl (lv_at hl 0 rfl) ?_
  refine va_get (D := D) (ci := 3) (v := .int (o0.1 0)) (C := RGr) (T := TGr) (N := 10) hx hb hts inGr hown hK hP 0 rfl rfl 0 (by decide) (hts _ wv_546) (fun _ h9 => h9) rfl dGr_isGate_2 ?_
  refine lv_icmp_le (tgt := 20) hx hb dGr_isGate_5 (by decide) (fun c_1 => ?_) (fun c_1 => ?_)
  · have h := op_t c_1 h
    exact bGr_isGate_20 C _ _ h hP hD hS (lv_sub hl [] rfl)
  · have h := op_f c_1 h
    refine lv_iload_n hx hb dGr_isGate_8 rfl (lv_at hl 1 rfl) ?_
    refine lv_aload_n hx hb dGr_isGate_9 rfl (lv_at hl 0 rfl) ?_
    obtain ⟨q_2, hq_2, h⟩ := op_b h
    refine dc_calli (va_runV (As := []) (rest := [.int v1]) ⟨hx, hb, hml, hown, hts⟩ (mGr_size l D K _ h0 a0 o0 _ hq_2) (cwV 0 hts (cf_GV wv_1072 wv_1073 wv_1074 wv_171 wv_1075) rfl rfl rfl (by decide +kernel) ⟨Nat.le_of_ble_eq_true rfl, Nat.le_of_ble_eq_true rfl⟩) (dc_preV hE hP hD hS hA rfl 0 rfl) rfl rfl hl.1 rfl (lv_room (Nat.le_of_ble_eq_true rfl)) dGr_isGate_10 ⟨Nat.le_of_ble_eq_true rfl, Nat.le_of_ble_eq_true rfl⟩) hP hD hS hA (fun r_3 H locs hw_4 hP hD hS => ?_)
    subst r_3
    refine lv_icmp_ge (tgt := 20) hx hb dGr_isGate_13 (by decide) (fun c_5 => ?_) (fun c_5 => ?_)
    · have h := op_t c_5 h
      exact bGr_isGate_20 C _ _ h hP hD hS (lv_sub hl [] rfl)
    · have h := op_f c_5 h
      refine lv_iconst (v := 1) hx hb dGr_isGate_16 (by decide) ?_
      refine lv_goto (tgt := 21) hx hb dGr_isGate_17 (by decide) ?_
      exact bGr_isGate_21 C _ _ _ h hP hD hS (lv_sub hl [] rfl)
set_option maxRecDepth 100000 in
theorem mGr_isGate (l : Launch) (D : va_G) (K : Nat → ClassId) (sz : Nat) (v1 : Int32) (h0 : Nat) (a0 : Nat → Nat) (o0 : cf_O) (r : Int32) (h : fGr_isGate v1 o0 = some r) : Met l yGr_isGate (Cond.code yGr_isGate cGr_isGate 2 (Option.some Jvm.ClassFile.FieldType.boolean) :: cfB) ({ frames := 1, cells := 0, slots := 0, locals := 20 }) (va_Pc [.ref h0, .int v1] (cf_Pre D K sz (wGr K h0 a0 o0))) (va_Qi (fun (x : Int32) (_ : Unit) => x = r) (fun (_ : Unit) t => cf_At D (va_A (wGr K h0 a0 o0) sz) (wGr K h0 a0 o0) t) (va_A (wGr K h0 a0 o0) sz)) 0 0 (va_A (wGr K h0 a0 o0) sz) := by
  refine cf_ofW (y := yGr_isGate) (As := [.ref h0, .int v1]) (WS := wGr K h0 a0 o0) (maxL := 2) (fun A => (va_Qi (fun (x : Int32) (_ : Unit) => x = r) (fun (_ : Unit) t => cf_At D A (wGr K h0 a0 o0) t) A)) (by decide) (Nat.le_of_ble_eq_true rfl) ?_
  intro p e s m below meth c A ls En hsz hA hP hD hE hS hl
  have C : (dc_C p s m (([.ref h0, .int v1] : List Value).toArray) meth c cGr_isGate 2 (Option.some Jvm.ClassFile.FieldType.boolean) yGr_isGate ∧ cf_E D K A s s.heap ∧ ∀ q, s.heap.size ≤ q → A q) := ⟨En, hE, hA⟩
  exact bGr_isGate_0 C v1 o0 r h hP hD hS hl
def IhCv_wantOutputs (p : Program) (l : Launch) (e : Env) (s : State) (m : MethodId) (below : List Frame) (meth : Method) (c : Code) (A : Nat → Prop) (D : va_G) (K : Nat → ClassId) (h0 : Nat) (a0 : Nat → Nat) (h1 : Nat) (a1 : Nat → Nat) (h2 : Nat) (a2 : Nat → Nat) (AR : Array Value) (n : Nat) : Prop := (∀ (v3 : Int32) (o0 : cf_O) (o1 : cf_O) (o2 : cf_O) (r : cf_O), gCv_wantOutputs n 0 v3 o0 o1 o2 = some r → ∀ {H : Heap} {locs : List Loc} {ls : Array Slot}, (va_P D vwCl (wCv K h0 a0 o0 ++ wGr K h1 a1 o1 ++ wCu K h2 a2 o2) H) → (va_D A (wCv K h0 a0 o0 ++ wGr K h1 a1 o1 ++ wCu K h2 a2 o2)) → va_S A s.heap H locs → lv_has ls 5 [(0, .ref h0), (1, .ref h1), (2, .ref h2), (3, .int v3)] → W p l e ({ frames := 2, cells := 0, slots := 0, locals := 41 }) s m AR below meth c H locs 0 0 (MQ below (va_Qv (fun (_ : Unit) => True) (fun (_ : Unit) t => cf_At D A (wCv K h0 a0 r ++ wGr K h1 a1 o1 ++ wCu K h2 a2 o2) t) A) AR s 0 0 A) (F0 m 15 ls [])) ∧ (∀ (v3 : Int32) (o0 : cf_O) (o1 : cf_O) (o2 : cf_O) (r : cf_O), gCv_wantOutputs n 1 v3 o0 o1 o2 = some r → ∀ {H : Heap} {locs : List Loc} {ls : Array Slot}, (va_P D vwCl (wCv K h0 a0 o0 ++ wGr K h1 a1 o1 ++ wCu K h2 a2 o2) H) → (va_D A (wCv K h0 a0 o0 ++ wGr K h1 a1 o1 ++ wCu K h2 a2 o2)) → va_S A s.heap H locs → lv_has ls 5 [(0, .ref h0), (1, .ref h1), (3, .int v3)] → W p l e ({ frames := 2, cells := 0, slots := 0, locals := 41 }) s m AR below meth c H locs 0 0 (MQ below (va_Qv (fun (_ : Unit) => True) (fun (_ : Unit) t => cf_At D A (wCv K h0 a0 r ++ wGr K h1 a1 o1 ++ wCu K h2 a2 o2) t) A) AR s 0 0 A) (F0 m 55 ls []))
set_option maxHeartbeats 4000000 in
set_option maxRecDepth 100000 in
theorem bCv_wantOutputs_93 {p : Program} {l : Launch} {e : Env} {s : State} {m : MethodId} {below : List Frame} {meth : Method} {c : Code} {A : Nat → Prop} {D : va_G} {K : Nat → ClassId} {h0 : Nat} {a0 : Nat → Nat} {h1 : Nat} {a1 : Nat → Nat} {h2 : Nat} {a2 : Nat → Nat} {AR : Array Value} (C : (dc_C p s m AR meth c cCv_wantOutputs 5 (Option.none : Option Jvm.ClassFile.FieldType) yCv_wantOutputs ∧ cf_E D K A s s.heap ∧ ∀ q, s.heap.size ≤ q → A q)) {n : Nat} (ih : IhCv_wantOutputs p l e s m below meth c A D K h0 a0 h1 a1 h2 a2 AR n) (v3 : Int32) (o0 : cf_O) (o1 : cf_O) (o2 : cf_O) (r : cf_O) (h : fCv_wantOutputs_93 (gCv_wantOutputs n) v3 o0 o1 o2 = some r) {H : Heap} {locs : List Loc} {ls : Array Slot} (hP : va_P D vwCl (wCv K h0 a0 o0 ++ wGr K h1 a1 o1 ++ wCu K h2 a2 o2) H) (hD : va_D A (wCv K h0 a0 o0 ++ wGr K h1 a1 o1 ++ wCu K h2 a2 o2)) (hS : va_S A s.heap H locs) (hl : lv_has ls 5 [(0, .ref h0), (1, .ref h1), (3, .int v3)]) : W p l e ({ frames := 2, cells := 0, slots := 0, locals := 41 }) s m AR below meth c H locs 0 0 (MQ below (va_Qv (fun (_ : Unit) => True) (fun (_ : Unit) t => cf_At D A (wCv K h0 a0 r ++ wGr K h1 a1 o1 ++ wCu K h2 a2 o2) t) A) AR s 0 0 A) (F0 m 93 ls []) := by
  obtain ⟨⟨hx, hb, hr, hts, hown, hlocks, hin, hml⟩, hE, hA⟩ := id C
  have hK := hE.k
  obtain ⟨x_1, ex_1⟩ : ∃ y : Int32, y = v3 + 1 := ⟨_, rfl⟩
  refine lv_iinc (v := x_1) (lv' := [(3, .int x_1), (0, .ref h0), (1, .ref h1)]) hx hb dCv_wantOutputs_93 hl (k := 2) rfl (by rw [ex_1]; rfl) (by decide) rfl (fun ls hl => ?_)
  have h := op_ks ex_1 h
  refine lv_goto (tgt := 55) hx hb dCv_wantOutputs_96 (by decide) ?_
  exact (ih.2) _ _ _ _ _ h hP hD hS (lv_sub hl [1, 2, 0] rfl)
set_option maxHeartbeats 4000000 in
set_option maxRecDepth 100000 in
theorem bCv_wantOutputs_55 {p : Program} {l : Launch} {e : Env} {s : State} {m : MethodId} {below : List Frame} {meth : Method} {c : Code} {A : Nat → Prop} {D : va_G} {K : Nat → ClassId} {h0 : Nat} {a0 : Nat → Nat} {h1 : Nat} {a1 : Nat → Nat} {h2 : Nat} {a2 : Nat → Nat} {AR : Array Value} (C : (dc_C p s m AR meth c cCv_wantOutputs 5 (Option.none : Option Jvm.ClassFile.FieldType) yCv_wantOutputs ∧ cf_E D K A s s.heap ∧ ∀ q, s.heap.size ≤ q → A q)) {n : Nat} (ih : IhCv_wantOutputs p l e s m below meth c A D K h0 a0 h1 a1 h2 a2 AR n) (v3 : Int32) (o0 : cf_O) (o1 : cf_O) (o2 : cf_O) (r : cf_O) (h : fCv_wantOutputs_55 (gCv_wantOutputs n) v3 o0 o1 o2 = some r) {H : Heap} {locs : List Loc} {ls : Array Slot} (hP : va_P D vwCl (wCv K h0 a0 o0 ++ wGr K h1 a1 o1 ++ wCu K h2 a2 o2) H) (hD : va_D A (wCv K h0 a0 o0 ++ wGr K h1 a1 o1 ++ wCu K h2 a2 o2)) (hS : va_S A s.heap H locs) (hl : lv_has ls 5 [(0, .ref h0), (1, .ref h1), (3, .int v3)]) : W p l e ({ frames := 2, cells := 0, slots := 0, locals := 41 }) s m AR below meth c H locs 0 0 (MQ below (va_Qv (fun (_ : Unit) => True) (fun (_ : Unit) t => cf_At D A (wCv K h0 a0 r ++ wGr K h1 a1 o1 ++ wCu K h2 a2 o2) t) A) AR s 0 0 A) (F0 m 55 ls []) := by
  obtain ⟨⟨hx, hb, hr, hts, hown, hlocks, hin, hml⟩, hE, hA⟩ := id C
  have hK := hE.k
  refine lv_iload_n hx hb dCv_wantOutputs_55 rfl (lv_at hl 2 rfl) ?_
  refine lv_aload_n hx hb dCv_wantOutputs_56 rfl (lv_at hl 1 rfl) ?_
  refine va_get (D := D) (ci := 3) (v := .int (o1.1 1)) (C := RGr) (T := TGr) (N := 10) hx hb hts inGr hown hK hP 6 rfl rfl 1 (by decide) (hts _ wv_552) (fun _ h9 => h9) rfl dCv_wantOutputs_57 ?_
  refine lv_icmp_ge (tgt := 99) hx hb dCv_wantOutputs_60 (by decide) (fun c_1 => ?_) (fun c_1 => ?_)
  · have h := op_t c_1 h
    obtain rfl := Option.some.inj h
    exact dc_vret hx hb hr hlocks rfl hP hD hS dCv_wantOutputs_99
  · have h := op_f c_1 h
    refine lv_aload_n hx hb dCv_wantOutputs_63 rfl (lv_at hl 1 rfl) ?_
    refine va_get (D := D) (ci := 3) (v := .ref (a1 7)) (C := RGr) (T := TGr) (N := 10) hx hb hts inGr hown hK hP 6 rfl rfl 7 (by decide) (hts _ wv_576) (fun _ h9 => h9) rfl dCv_wantOutputs_64 ?_
    refine lv_iload_n hx hb dCv_wantOutputs_67 rfl (lv_at hl 2 rfl) ?_
    obtain ⟨hi_2, h⟩ := op_n h
    refine va_iald (D := D) hx hb hK hP 10 0 rfl rfl hi_2 dCv_wantOutputs_68 ?_
    refine lv_topi (fun x_3 ex_3 => ?_)
    have h := op_ks ex_3 h
    refine lv_iconst (v := 1) hx hb dCv_wantOutputs_69 (by decide) ?_
    refine lv_ishr hx hb dCv_wantOutputs_70 ?_
    refine lv_topi (fun x_4 ex_4 => ?_)
    have h := op_ks ex_4 h
    refine lv_istore (lv' := [(4, .int x_4), (0, .ref h0), (1, .ref h1), (3, .int v3)]) hx hb dCv_wantOutputs_71 hl (by decide) rfl (fun ls hl => ?_)
    refine lv_aload_n hx hb dCv_wantOutputs_73 rfl (lv_at hl 2 rfl) ?_
    refine lv_iload hx hb dCv_wantOutputs_74 (lv_at hl 0 rfl) ?_
    obtain ⟨q_5, hq_5, h⟩ := op_b h
    refine cf_calli (wc := wGr K h1 a1 o1) (wr := wCv K h0 a0 o0 ++ wCu K h2 a2 o2) (va_runV (As := [.int x_4]) (rest := []) ⟨hx, hb, hml, hown, hts⟩ (mGr_isGate l D K _ x_4 h1 a1 o1 _ hq_5) (cwV 1 hts (cf_GV wv_1466 wv_1128 wv_1129 wv_171 wv_1130) rfl rfl rfl (by decide +kernel) ⟨Nat.le_of_ble_eq_true rfl, Nat.le_of_ble_eq_true rfl⟩) (cf_preV (wc := wGr K h1 a1 o1) hE hP hD hS hA rfl 6 rfl [6, 7, 8, 9, 10, 11, 12] rfl (by decide +kernel)) rfl rfl hl.1 rfl (lv_room (Nat.le_of_ble_eq_true rfl)) dCv_wantOutputs_76 ⟨Nat.le_of_ble_eq_true rfl, Nat.le_of_ble_eq_true rfl⟩) hP hD hS hA [6, 7, 8, 9, 10, 11, 12] [0, 1, 2, 3, 4, 5, 13, 14, 15, 16, 17] rfl rfl (by decide +kernel) (by decide +kernel) (fun r_6 _ H locs hw_7 hP hD hS => ?_)
    subst r_6
    have hP : va_P D vwCl (wCv K h0 a0 o0 ++ wGr K h1 a1 o1 ++ wCu K h2 a2 o2) H := hP.sub [0, 1, 2, 3, 4, 5, 11, 12, 13, 14, 15, 16, 17, 6, 7, 8, 9, 10] rfl
    have hD : va_D A (wCv K h0 a0 o0 ++ wGr K h1 a1 o1 ++ wCu K h2 a2 o2) := hD.sub [0, 1, 2, 3, 4, 5, 11, 12, 13, 14, 15, 16, 17, 6, 7, 8, 9, 10] (by decide +kernel) rfl
    refine lv_if_eq (tgt := 93) hx hb dCv_wantOutputs_79 (by decide) (fun c_8 => ?_) (fun c_8 => ?_)
    · have h := op_t c_8 h
      exact bCv_wantOutputs_93 C ih _ _ _ _ _ h hP hD hS (lv_sub hl [1, 2, 3] rfl)
    · have h := op_f c_8 h
      refine lv_aload_n hx hb dCv_wantOutputs_82 rfl (lv_at hl 1 rfl) ?_
      refine va_get (D := D) (ci := 8) (v := .ref (a0 6)) (C := RCv) (T := TCv) (N := 7) hx hb hts inCv hown hK hP 0 rfl rfl 6 (by decide) (hts _ wv_380) (fun _ h9 => h9) rfl dCv_wantOutputs_83 ?_
      refine lv_iload hx hb dCv_wantOutputs_86 (lv_at hl 0 rfl) ?_
      refine lv_aload_n hx hb dCv_wantOutputs_88 rfl (lv_at hl 1 rfl) ?_
      refine va_get (D := D) (ci := 8) (v := .int (o0.1 1)) (C := RCv) (T := TCv) (N := 7) hx hb hts inCv hown hK hP 0 rfl rfl 1 (by decide) (hts _ wv_371) (fun _ h9 => h9) rfl dCv_wantOutputs_89 ?_
      obtain ⟨hi_9, h⟩ := op_n h
      refine va_iast (D := D) hx hb hK hP hD hS 5 0 rfl rfl hi_9 dCv_wantOutputs_92 (fun H locs hP hD hS => ?_)
      have hP : va_P D vwCl (wCv K h0 a0 (xp o0 6 x_4.toNatClampNeg (o0.1 1)) ++ wGr K h1 a1 o1 ++ wCu K h2 a2 o2) H := hP
      have hD : va_D A (wCv K h0 a0 (xp o0 6 x_4.toNatClampNeg (o0.1 1)) ++ wGr K h1 a1 o1 ++ wCu K h2 a2 o2) := hD
      obtain ⟨o_10, eo_10, h⟩ := op_kx h
      rw [← eo_10] at hP hD
      exact bCv_wantOutputs_93 C ih _ _ _ _ _ h hP hD hS (lv_sub hl [1, 2, 3] rfl)
set_option maxHeartbeats 4000000 in
set_option maxRecDepth 100000 in
theorem bCv_wantOutputs_15 {p : Program} {l : Launch} {e : Env} {s : State} {m : MethodId} {below : List Frame} {meth : Method} {c : Code} {A : Nat → Prop} {D : va_G} {K : Nat → ClassId} {h0 : Nat} {a0 : Nat → Nat} {h1 : Nat} {a1 : Nat → Nat} {h2 : Nat} {a2 : Nat → Nat} {AR : Array Value} (C : (dc_C p s m AR meth c cCv_wantOutputs 5 (Option.none : Option Jvm.ClassFile.FieldType) yCv_wantOutputs ∧ cf_E D K A s s.heap ∧ ∀ q, s.heap.size ≤ q → A q)) {n : Nat} (ih : IhCv_wantOutputs p l e s m below meth c A D K h0 a0 h1 a1 h2 a2 AR n) (v3 : Int32) (o0 : cf_O) (o1 : cf_O) (o2 : cf_O) (r : cf_O) (h : fCv_wantOutputs_15 (gCv_wantOutputs n) v3 o0 o1 o2 = some r) {H : Heap} {locs : List Loc} {ls : Array Slot} (hP : va_P D vwCl (wCv K h0 a0 o0 ++ wGr K h1 a1 o1 ++ wCu K h2 a2 o2) H) (hD : va_D A (wCv K h0 a0 o0 ++ wGr K h1 a1 o1 ++ wCu K h2 a2 o2)) (hS : va_S A s.heap H locs) (hl : lv_has ls 5 [(0, .ref h0), (1, .ref h1), (2, .ref h2), (3, .int v3)]) : W p l e ({ frames := 2, cells := 0, slots := 0, locals := 41 }) s m AR below meth c H locs 0 0 (MQ below (va_Qv (fun (_ : Unit) => True) (fun (_ : Unit) t => cf_At D A (wCv K h0 a0 r ++ wGr K h1 a1 o1 ++ wCu K h2 a2 o2) t) A) AR s 0 0 A) (F0 m 15 ls []) := by
  obtain ⟨⟨hx, hb, hr, hts, hown, hlocks, hin, hml⟩, hE, hA⟩ := id C
  have hK := hE.k
  refine lv_iload_n hx hb dCv_wantOutputs_15 rfl (lv_at hl 3 rfl) ?_
  refine lv_aload_n hx hb dCv_wantOutputs_16 rfl (lv_at hl 1 rfl) ?_
  refine va_get (D := D) (ci := 3) (v := .int (o1.1 1)) (C := RGr) (T := TGr) (N := 10) hx hb hts inGr hown hK hP 6 rfl rfl 1 (by decide) (hts _ wv_552) (fun _ h9 => h9) rfl dCv_wantOutputs_17 ?_
  refine lv_icmp_ge (tgt := 53) hx hb dCv_wantOutputs_20 (by decide) (fun c_1 => ?_) (fun c_1 => ?_)
  · have h := op_t c_1 h
    refine lv_iconst (v := 0) hx hb dCv_wantOutputs_53 (by decide) ?_
    refine lv_istore_n (lv' := [(3, .int 0), (0, .ref h0), (1, .ref h1), (2, .ref h2)]) hx hb dCv_wantOutputs_54 rfl hl (by decide) rfl (fun ls hl => ?_)
    exact (ih.2) _ _ _ _ _ h hP hD hS (lv_sub hl [1, 2, 0] rfl)
  · have h := op_f c_1 h
    refine lv_aload_n hx hb dCv_wantOutputs_23 rfl (lv_at hl 0 rfl) ?_
    refine lv_aload_n hx hb dCv_wantOutputs_24 rfl (lv_at hl 0 rfl) ?_
    refine va_get (D := D) (ci := 8) (v := .int (o0.1 1)) (C := RCv) (T := TCv) (N := 7) hx hb hts inCv hown hK hP 0 rfl rfl 1 (by decide) (hts _ wv_371) (fun _ h9 => h9) rfl dCv_wantOutputs_25 ?_
    refine lv_aload_n hx hb dCv_wantOutputs_28 rfl (lv_at hl 2 rfl) ?_
    refine va_get (D := D) (ci := 5) (v := .ref (a2 1)) (C := RCu) (T := TCu) (N := 6) hx hb hts inCu hown hK hP 13 rfl rfl 1 (by decide) (hts _ wv_267) (fun _ h9 => h9) rfl dCv_wantOutputs_29 ?_
    refine lv_aload_n hx hb dCv_wantOutputs_32 rfl (lv_at hl 1 rfl) ?_
    refine va_get (D := D) (ci := 3) (v := .ref (a1 7)) (C := RGr) (T := TGr) (N := 10) hx hb hts inGr hown hK hP 6 rfl rfl 7 (by decide) (hts _ wv_576) (fun _ h9 => h9) rfl dCv_wantOutputs_33 ?_
    refine lv_iload_n hx hb dCv_wantOutputs_36 rfl (lv_at hl 3 rfl) ?_
    obtain ⟨hi_2, h⟩ := op_n h
    refine va_iald (D := D) hx hb hK hP 10 0 rfl rfl hi_2 dCv_wantOutputs_37 ?_
    refine lv_topi (fun x_3 ex_3 => ?_)
    have h := op_ks ex_3 h
    refine lv_iconst (v := 1) hx hb dCv_wantOutputs_38 (by decide) ?_
    refine lv_ishr hx hb dCv_wantOutputs_39 ?_
    refine lv_topi (fun x_4 ex_4 => ?_)
    have h := op_ks ex_4 h
    obtain ⟨hi_5, h⟩ := op_n h
    refine va_iald (D := D) hx hb hK hP 14 0 rfl rfl hi_5 dCv_wantOutputs_40 ?_
    refine lv_topi (fun x_6 ex_6 => ?_)
    have h := op_ks ex_6 h
    refine va_mmax (x := (o0.1 1)) (y := x_6) hx hb (hml.trans hl.1.symm) hown (hts _ wv_1465) (hts _ wv_1062) (hts _ wv_182) (hts _ wv_1063) (Nat.le_of_ble_eq_true rfl) (Nat.le_of_ble_eq_true rfl) (Nat.le_of_ble_eq_true rfl) (Nat.le_of_ble_eq_true rfl) dCv_wantOutputs_41 ?_
    refine lv_topi (fun x_7 ex_7 => ?_)
    have h := op_ks ex_7 h
    refine va_put (D := D) (ci := 8) (v := .int x_7) (ty := .int) (C := RCv) (T := TCv) (N := 7) hx hb hts inCv tyCv tyokCv nmCv hown hK hP hD hS 0 rfl rfl 1 (by decide) (hts _ wv_371) (fun _ h9 => h9) rfl (by decide +kernel) rfl rfl (Nat.le_of_ble_eq_true rfl) dCv_wantOutputs_44 (fun H locs hP hD hS => ?_)
    have hP : va_P D vwCl (wCv K h0 a0 (fp o0 1 x_7) ++ wGr K h1 a1 o1 ++ wCu K h2 a2 o2) H := hP
    have hD : va_D A (wCv K h0 a0 (fp o0 1 x_7) ++ wGr K h1 a1 o1 ++ wCu K h2 a2 o2) := hD
    obtain ⟨o_8, eo_8, h⟩ := op_kx h
    rw [← eo_8] at hP hD
    obtain ⟨x_9, ex_9⟩ : ∃ y : Int32, y = v3 + 1 := ⟨_, rfl⟩
    refine lv_iinc (v := x_9) (lv' := [(3, .int x_9), (0, .ref h0), (1, .ref h1), (2, .ref h2)]) hx hb dCv_wantOutputs_47 hl (k := 3) rfl (by rw [ex_9]; rfl) (by decide) rfl (fun ls hl => ?_)
    have h := op_ks ex_9 h
    refine lv_goto (tgt := 15) hx hb dCv_wantOutputs_50 (by decide) ?_
    exact (ih.1) _ _ _ _ _ h hP hD hS (lv_sub hl [1, 2, 3, 0] rfl)
set_option maxHeartbeats 4000000 in
set_option maxRecDepth 100000 in
theorem bCv_wantOutputs_0 {p : Program} {l : Launch} {e : Env} {s : State} {m : MethodId} {below : List Frame} {meth : Method} {c : Code} {A : Nat → Prop} {D : va_G} {K : Nat → ClassId} {h0 : Nat} {a0 : Nat → Nat} {h1 : Nat} {a1 : Nat → Nat} {h2 : Nat} {a2 : Nat → Nat} {AR : Array Value} (C : (dc_C p s m AR meth c cCv_wantOutputs 5 (Option.none : Option Jvm.ClassFile.FieldType) yCv_wantOutputs ∧ cf_E D K A s s.heap ∧ ∀ q, s.heap.size ≤ q → A q)) {n : Nat} (ih : IhCv_wantOutputs p l e s m below meth c A D K h0 a0 h1 a1 h2 a2 AR n) (o0 : cf_O) (o1 : cf_O) (o2 : cf_O) (r : cf_O) (h : fCv_wantOutputs_0 (gCv_wantOutputs n) o0 o1 o2 = some r) {H : Heap} {locs : List Loc} {ls : Array Slot} (hP : va_P D vwCl (wCv K h0 a0 o0 ++ wGr K h1 a1 o1 ++ wCu K h2 a2 o2) H) (hD : va_D A (wCv K h0 a0 o0 ++ wGr K h1 a1 o1 ++ wCu K h2 a2 o2)) (hS : va_S A s.heap H locs) (hl : lv_has ls 5 [(0, .ref h0), (1, .ref h1), (2, .ref h2)]) : W p l e ({ frames := 2, cells := 0, slots := 0, locals := 41 }) s m AR below meth c H locs 0 0 (MQ below (va_Qv (fun (_ : Unit) => True) (fun (_ : Unit) t => cf_At D A (wCv K h0 a0 r ++ wGr K h1 a1 o1 ++ wCu K h2 a2 o2) t) A) AR s 0 0 A) (F0 m 0 ls []) := by
  obtain ⟨⟨hx, hb, hr, hts, hown, hlocks, hin, hml⟩, hE, hA⟩ := id C
  have hK := hE.k
  refine lv_aload_n hx hb dCv_wantOutputs_0 rfl (lv_at hl 0 rfl) ?_
  refine va_get (D := D) (ci := 8) (v := .ref (a0 6)) (C := RCv) (T := TCv) (N := 7) hx hb hts inCv hown hK hP 0 rfl rfl 6 (by decide) (hts _ wv_380) (fun _ h9 => h9) rfl dCv_wantOutputs_1 ?_
  refine lv_iconst (v := (-1)) hx hb dCv_wantOutputs_4 (by decide) ?_
  obtain ⟨q_1, hq_1, h⟩ := op_b h
  refine cf_callv (wc := wCv K h0 a0 o0) (wr := wGr K h1 a1 o1 ++ wCu K h2 a2 o2) (va_runS (As := [.ref (a0 6), .int (-1)]) (rest := []) ⟨hx, hb, hml, hown, hts⟩ (mJArrays_fill_AII_Cv6 l D K _ (-1) h0 a0 o0 _ hq_1) (va_cwS 2 hts (cf_GS wv_1464 wv_841 wv_181 wv_842) rfl rfl rfl (by decide +kernel) ⟨Nat.le_of_ble_eq_true rfl, Nat.le_of_ble_eq_true rfl⟩) (cf_preS (wc := wCv K h0 a0 o0) hE hP hD hS hA [0, 1, 2, 3, 4, 5] rfl (by decide +kernel)) rfl rfl hl.1 rfl (lv_room (Nat.le_of_ble_eq_true rfl)) dCv_wantOutputs_5 ⟨Nat.le_of_ble_eq_true rfl, Nat.le_of_ble_eq_true rfl⟩) hP hD hS hA [0, 1, 2, 3, 4, 5] [6, 7, 8, 9, 10, 11, 12, 13, 14, 15, 16, 17] rfl rfl (by decide +kernel) (by decide +kernel) (fun _ H locs hw_2 hP hD hS => ?_)
  have hP : va_P D vwCl (wCv K h0 a0 q_1 ++ wGr K h1 a1 o1 ++ wCu K h2 a2 o2) H := hP.sub [12, 13, 14, 15, 16, 17, 0, 1, 2, 3, 4, 5, 6, 7, 8, 9, 10, 11] rfl
  have hD : va_D A (wCv K h0 a0 q_1 ++ wGr K h1 a1 o1 ++ wCu K h2 a2 o2) := hD.sub [12, 13, 14, 15, 16, 17, 0, 1, 2, 3, 4, 5, 6, 7, 8, 9, 10, 11] (by decide +kernel) rfl
  refine lv_aload_n hx hb dCv_wantOutputs_8 rfl (lv_at hl 0 rfl) ?_
  refine lv_iconst (v := 0) hx hb dCv_wantOutputs_9 (by decide) ?_
  refine va_put (D := D) (ci := 8) (v := .int 0) (ty := .int) (C := RCv) (T := TCv) (N := 7) hx hb hts inCv tyCv tyokCv nmCv hown hK hP hD hS 0 rfl rfl 1 (by decide) (hts _ wv_371) (fun _ h9 => h9) rfl (by decide +kernel) rfl rfl (Nat.le_of_ble_eq_true rfl) dCv_wantOutputs_10 (fun H locs hP hD hS => ?_)
  have hP : va_P D vwCl (wCv K h0 a0 (fp q_1 1 0) ++ wGr K h1 a1 o1 ++ wCu K h2 a2 o2) H := hP
  have hD : va_D A (wCv K h0 a0 (fp q_1 1 0) ++ wGr K h1 a1 o1 ++ wCu K h2 a2 o2) := hD
  obtain ⟨o_3, eo_3, h⟩ := op_kx h
  rw [← eo_3] at hP hD
  refine lv_iconst (v := 0) hx hb dCv_wantOutputs_13 (by decide) ?_
  refine lv_istore_n (lv' := [(3, .int 0), (0, .ref h0), (1, .ref h1), (2, .ref h2)]) hx hb dCv_wantOutputs_14 rfl hl (by decide) rfl (fun ls hl => ?_)
  exact (ih.1) _ _ _ _ _ h hP hD hS (lv_sub hl [1, 2, 3, 0] rfl)
theorem iCv_wantOutputs {p : Program} {l : Launch} {e : Env} {s : State} {m : MethodId} {below : List Frame} {meth : Method} {c : Code} {A : Nat → Prop} {D : va_G} {K : Nat → ClassId} {h0 : Nat} {a0 : Nat → Nat} {h1 : Nat} {a1 : Nat → Nat} {h2 : Nat} {a2 : Nat → Nat} {AR : Array Value} (C : (dc_C p s m AR meth c cCv_wantOutputs 5 (Option.none : Option Jvm.ClassFile.FieldType) yCv_wantOutputs ∧ cf_E D K A s s.heap ∧ ∀ q, s.heap.size ≤ q → A q)) : ∀ n, IhCv_wantOutputs p l e s m below meth c A D K h0 a0 h1 a1 h2 a2 AR n := by
  intro n
  induction n with
  | zero => exact ⟨(fun _ _ _ _ r h => by cases (show none = some r from h)), (fun _ _ _ _ r h => by cases (show none = some r from h))⟩
  | succ n ih => exact ⟨fun x0 x1 x2 x3 r h _ _ _ hP hD hS hl => bCv_wantOutputs_15 C ih x0 x1 x2 x3 r h hP hD hS hl, fun x0 x1 x2 x3 r h _ _ _ hP hD hS hl => bCv_wantOutputs_55 C ih x0 x1 x2 x3 r h hP hD hS hl⟩
set_option maxRecDepth 100000 in
theorem mCv_wantOutputs (l : Launch) (D : va_G) (K : Nat → ClassId) (sz : Nat) (h0 : Nat) (a0 : Nat → Nat) (h1 : Nat) (a1 : Nat → Nat) (h2 : Nat) (a2 : Nat → Nat) (o0 : cf_O) (o1 : cf_O) (o2 : cf_O) (r : cf_O) (h : fCv_wantOutputs o0 o1 o2 = some r) : Met l yCv_wantOutputs (Cond.code yCv_wantOutputs cCv_wantOutputs 5 (Option.none : Option Jvm.ClassFile.FieldType) :: cfB) ({ frames := 2, cells := 0, slots := 0, locals := 41 }) (va_Pc [.ref h0, .ref h1, .ref h2] (cf_Pre D K sz (wCv K h0 a0 o0 ++ wGr K h1 a1 o1 ++ wCu K h2 a2 o2))) (va_Qv (fun (_ : Unit) => True) (fun (_ : Unit) t => cf_At D (va_A (wCv K h0 a0 o0 ++ wGr K h1 a1 o1 ++ wCu K h2 a2 o2) sz) (wCv K h0 a0 r ++ wGr K h1 a1 o1 ++ wCu K h2 a2 o2) t) (va_A (wCv K h0 a0 o0 ++ wGr K h1 a1 o1 ++ wCu K h2 a2 o2) sz)) 0 0 (va_A (wCv K h0 a0 o0 ++ wGr K h1 a1 o1 ++ wCu K h2 a2 o2) sz) := by
  refine cf_ofW (y := yCv_wantOutputs) (As := [.ref h0, .ref h1, .ref h2]) (WS := wCv K h0 a0 o0 ++ wGr K h1 a1 o1 ++ wCu K h2 a2 o2) (maxL := 5) (fun A => (va_Qv (fun (_ : Unit) => True) (fun (_ : Unit) t => cf_At D A (wCv K h0 a0 r ++ wGr K h1 a1 o1 ++ wCu K h2 a2 o2) t) A)) (by decide) (Nat.le_of_ble_eq_true rfl) ?_
  intro p e s m below meth c A ls En hsz hA hP hD hE hS hl
  have C : (dc_C p s m (([.ref h0, .ref h1, .ref h2] : List Value).toArray) meth c cCv_wantOutputs 5 (Option.none : Option Jvm.ClassFile.FieldType) yCv_wantOutputs ∧ cf_E D K A s s.heap ∧ ∀ q, s.heap.size ≤ q → A q) := ⟨En, hE, hA⟩
  exact bCv_wantOutputs_0 C (iCv_wantOutputs C cfFU) o0 o1 o2 r h hP hD hS hl
set_option maxHeartbeats 4000000 in
set_option maxRecDepth 100000 in
theorem bCu_firstOf_0 {p : Program} {l : Launch} {e : Env} {s : State} {m : MethodId} {below : List Frame} {meth : Method} {c : Code} {A : Nat → Prop} {D : va_G} {K : Nat → ClassId} {h0 : Nat} {a0 : Nat → Nat} {AR : Array Value} (C : (dc_C p s m AR meth c cCu_firstOf 2 (Option.some Jvm.ClassFile.FieldType.int) yCu_firstOf ∧ cf_E D K A s s.heap ∧ ∀ q, s.heap.size ≤ q → A q)) (v1 : Int32) (o0 : cf_O) (r : Int32) (h : fCu_firstOf_0 v1 o0 = some r) {H : Heap} {locs : List Loc} {ls : Array Slot} (hP : va_P D vwCl (wCu K h0 a0 o0) H) (hD : va_D A (wCu K h0 a0 o0)) (hS : va_S A s.heap H locs) (hl : lv_has ls 2 [(0, .ref h0), (1, .int v1)]) : W p l e ({ frames := 0, cells := 0, slots := 0, locals := 0 }) s m AR below meth c H locs 0 0 (MQ below (va_Qi (fun (x : Int32) (_ : Unit) => x = r) (fun (_ : Unit) t => cf_At D A (wCu K h0 a0 o0) t) A) AR s 0 0 A) (F0 m 0 ls []) := by
  obtain ⟨⟨hx, hb, hr, hts, hown, hlocks, hin, hml⟩, hE, hA⟩ := id C
  have hK := hE.k
  refine lv_aload_n hx hb dCu_firstOf_0 rfl (lv_at hl 0 rfl) ?_
  refine va_get (D := D) (ci := 5) (v := .ref (a0 2)) (C := RCu) (T := TCu) (N := 6) hx hb hts inCu hown hK hP 0 rfl rfl 2 (by decide) (hts _ wv_268) (fun _ h9 => h9) rfl dCu_firstOf_1 ?_
  refine lv_iload_n hx hb dCu_firstOf_4 rfl (lv_at hl 1 rfl) ?_
  obtain ⟨hi_1, h⟩ := op_n h
  refine va_iald (D := D) hx hb hK hP 2 0 rfl rfl hi_1 dCu_firstOf_5 ?_
  refine lv_topi (fun x_2 ex_2 => ?_)
  have h := op_ks ex_2 h
  refine lv_iconst (v := 1) hx hb dCu_firstOf_6 (by decide) ?_
  refine lv_iadd hx hb dCu_firstOf_7 ?_
  refine lv_topi (fun x_3 ex_3 => ?_)
  have h := op_ks ex_3 h
  obtain rfl := Option.some.inj h
  exact dc_iret hx hb hr hlocks rfl hP hD hS dCu_firstOf_8
set_option maxRecDepth 100000 in
theorem mCu_firstOf (l : Launch) (D : va_G) (K : Nat → ClassId) (sz : Nat) (v1 : Int32) (h0 : Nat) (a0 : Nat → Nat) (o0 : cf_O) (r : Int32) (h : fCu_firstOf v1 o0 = some r) : Met l yCu_firstOf (Cond.code yCu_firstOf cCu_firstOf 2 (Option.some Jvm.ClassFile.FieldType.int) :: cfB) ({ frames := 0, cells := 0, slots := 0, locals := 0 }) (va_Pc [.ref h0, .int v1] (cf_Pre D K sz (wCu K h0 a0 o0))) (va_Qi (fun (x : Int32) (_ : Unit) => x = r) (fun (_ : Unit) t => cf_At D (va_A (wCu K h0 a0 o0) sz) (wCu K h0 a0 o0) t) (va_A (wCu K h0 a0 o0) sz)) 0 0 (va_A (wCu K h0 a0 o0) sz) := by
  refine cf_ofW (y := yCu_firstOf) (As := [.ref h0, .int v1]) (WS := wCu K h0 a0 o0) (maxL := 2) (fun A => (va_Qi (fun (x : Int32) (_ : Unit) => x = r) (fun (_ : Unit) t => cf_At D A (wCu K h0 a0 o0) t) A)) (by decide) (Nat.le_of_ble_eq_true rfl) ?_
  intro p e s m below meth c A ls En hsz hA hP hD hE hS hl
  have C : (dc_C p s m (([.ref h0, .int v1] : List Value).toArray) meth c cCu_firstOf 2 (Option.some Jvm.ClassFile.FieldType.int) yCu_firstOf ∧ cf_E D K A s s.heap ∧ ∀ q, s.heap.size ≤ q → A q) := ⟨En, hE, hA⟩
  exact bCu_firstOf_0 C v1 o0 r h hP hD hS hl
set_option maxHeartbeats 4000000 in
set_option maxRecDepth 100000 in
theorem bCu_behindLastOf_0 {p : Program} {l : Launch} {e : Env} {s : State} {m : MethodId} {below : List Frame} {meth : Method} {c : Code} {A : Nat → Prop} {D : va_G} {K : Nat → ClassId} {h0 : Nat} {a0 : Nat → Nat} {AR : Array Value} (C : (dc_C p s m AR meth c cCu_behindLastOf 2 (Option.some Jvm.ClassFile.FieldType.int) yCu_behindLastOf ∧ cf_E D K A s s.heap ∧ ∀ q, s.heap.size ≤ q → A q)) (v1 : Int32) (o0 : cf_O) (r : Int32) (h : fCu_behindLastOf_0 v1 o0 = some r) {H : Heap} {locs : List Loc} {ls : Array Slot} (hP : va_P D vwCl (wCu K h0 a0 o0) H) (hD : va_D A (wCu K h0 a0 o0)) (hS : va_S A s.heap H locs) (hl : lv_has ls 2 [(0, .ref h0), (1, .int v1)]) : W p l e ({ frames := 0, cells := 0, slots := 0, locals := 0 }) s m AR below meth c H locs 0 0 (MQ below (va_Qi (fun (x : Int32) (_ : Unit) => x = r) (fun (_ : Unit) t => cf_At D A (wCu K h0 a0 o0) t) A) AR s 0 0 A) (F0 m 0 ls []) := by
  obtain ⟨⟨hx, hb, hr, hts, hown, hlocks, hin, hml⟩, hE, hA⟩ := id C
  have hK := hE.k
  refine lv_aload_n hx hb dCu_behindLastOf_0 rfl (lv_at hl 0 rfl) ?_
  refine va_get (D := D) (ci := 5) (v := .ref (a0 2)) (C := RCu) (T := TCu) (N := 6) hx hb hts inCu hown hK hP 0 rfl rfl 2 (by decide) (hts _ wv_268) (fun _ h9 => h9) rfl dCu_behindLastOf_1 ?_
  refine lv_iload_n hx hb dCu_behindLastOf_4 rfl (lv_at hl 1 rfl) ?_
  refine lv_iconst (v := 1) hx hb dCu_behindLastOf_5 (by decide) ?_
  refine lv_iadd hx hb dCu_behindLastOf_6 ?_
  refine lv_topi (fun x_1 ex_1 => ?_)
  have h := op_ks ex_1 h
  obtain ⟨hi_2, h⟩ := op_n h
  refine va_iald (D := D) hx hb hK hP 2 0 rfl rfl hi_2 dCu_behindLastOf_7 ?_
  refine lv_topi (fun x_3 ex_3 => ?_)
  have h := op_ks ex_3 h
  obtain rfl := Option.some.inj h
  exact dc_iret hx hb hr hlocks rfl hP hD hS dCu_behindLastOf_8
set_option maxRecDepth 100000 in
theorem mCu_behindLastOf (l : Launch) (D : va_G) (K : Nat → ClassId) (sz : Nat) (v1 : Int32) (h0 : Nat) (a0 : Nat → Nat) (o0 : cf_O) (r : Int32) (h : fCu_behindLastOf v1 o0 = some r) : Met l yCu_behindLastOf (Cond.code yCu_behindLastOf cCu_behindLastOf 2 (Option.some Jvm.ClassFile.FieldType.int) :: cfB) ({ frames := 0, cells := 0, slots := 0, locals := 0 }) (va_Pc [.ref h0, .int v1] (cf_Pre D K sz (wCu K h0 a0 o0))) (va_Qi (fun (x : Int32) (_ : Unit) => x = r) (fun (_ : Unit) t => cf_At D (va_A (wCu K h0 a0 o0) sz) (wCu K h0 a0 o0) t) (va_A (wCu K h0 a0 o0) sz)) 0 0 (va_A (wCu K h0 a0 o0) sz) := by
  refine cf_ofW (y := yCu_behindLastOf) (As := [.ref h0, .int v1]) (WS := wCu K h0 a0 o0) (maxL := 2) (fun A => (va_Qi (fun (x : Int32) (_ : Unit) => x = r) (fun (_ : Unit) t => cf_At D A (wCu K h0 a0 o0) t) A)) (by decide) (Nat.le_of_ble_eq_true rfl) ?_
  intro p e s m below meth c A ls En hsz hA hP hD hE hS hl
  have C : (dc_C p s m (([.ref h0, .int v1] : List Value).toArray) meth c cCu_behindLastOf 2 (Option.some Jvm.ClassFile.FieldType.int) yCu_behindLastOf ∧ cf_E D K A s s.heap ∧ ∀ q, s.heap.size ≤ q → A q) := ⟨En, hE, hA⟩
  exact bCu_behindLastOf_0 C v1 o0 r h hP hD hS hl
set_option maxHeartbeats 4000000 in
set_option maxRecDepth 100000 in
theorem bCu_cutAt_0 {p : Program} {l : Launch} {e : Env} {s : State} {m : MethodId} {below : List Frame} {meth : Method} {c : Code} {A : Nat → Prop} {D : va_G} {K : Nat → ClassId} {h0 : Nat} {a0 : Nat → Nat} {AR : Array Value} (C : (dc_C p s m AR meth c cCu_cutAt 2 (Option.some Jvm.ClassFile.FieldType.long) yCu_cutAt ∧ cf_E D K A s s.heap ∧ ∀ q, s.heap.size ≤ q → A q)) (v1 : Int32) (o0 : cf_O) (r : Int64) (h : fCu_cutAt_0 v1 o0 = some r) {H : Heap} {locs : List Loc} {ls : Array Slot} (hP : va_P D vwCl (wCu K h0 a0 o0) H) (hD : va_D A (wCu K h0 a0 o0)) (hS : va_S A s.heap H locs) (hl : lv_has ls 2 [(0, .ref h0), (1, .int v1)]) : W p l e ({ frames := 0, cells := 0, slots := 0, locals := 0 }) s m AR below meth c H locs 0 0 (MQ below (va_Ql (fun (x : Int64) (_ : Unit) => x = r) (fun (_ : Unit) t => cf_At D A (wCu K h0 a0 o0) t) A) AR s 0 0 A) (F0 m 0 ls []) := by
  obtain ⟨⟨hx, hb, hr, hts, hown, hlocks, hin, hml⟩, hE, hA⟩ := id C
  have hK := hE.k
  refine lv_aload_n hx hb dCu_cutAt_0 rfl (lv_at hl 0 rfl) ?_
  refine va_get (D := D) (ci := 5) (v := .ref (a0 4)) (C := RCu) (T := TCu) (N := 6) hx hb hts inCu hown hK hP 0 rfl rfl 4 (by decide) (hts _ wv_270) (fun _ h9 => h9) rfl dCu_cutAt_1 ?_
  refine lv_iload_n hx hb dCu_cutAt_4 rfl (lv_at hl 1 rfl) ?_
  obtain ⟨hi_1, h⟩ := op_n h
  refine va_lald (D := D) hx hb hK hP 3 1 rfl rfl hi_1 dCu_cutAt_5 ?_
  refine lv_topl (fun x_2 ex_2 => ?_)
  have h := op_ks ex_2 h
  obtain rfl := Option.some.inj h
  exact dc_lret hx hb hr hlocks rfl hP hD hS dCu_cutAt_6
set_option maxRecDepth 100000 in
theorem mCu_cutAt (l : Launch) (D : va_G) (K : Nat → ClassId) (sz : Nat) (v1 : Int32) (h0 : Nat) (a0 : Nat → Nat) (o0 : cf_O) (r : Int64) (h : fCu_cutAt v1 o0 = some r) : Met l yCu_cutAt (Cond.code yCu_cutAt cCu_cutAt 2 (Option.some Jvm.ClassFile.FieldType.long) :: cfB) ({ frames := 0, cells := 0, slots := 0, locals := 0 }) (va_Pc [.ref h0, .int v1] (cf_Pre D K sz (wCu K h0 a0 o0))) (va_Ql (fun (x : Int64) (_ : Unit) => x = r) (fun (_ : Unit) t => cf_At D (va_A (wCu K h0 a0 o0) sz) (wCu K h0 a0 o0) t) (va_A (wCu K h0 a0 o0) sz)) 0 0 (va_A (wCu K h0 a0 o0) sz) := by
  refine cf_ofW (y := yCu_cutAt) (As := [.ref h0, .int v1]) (WS := wCu K h0 a0 o0) (maxL := 2) (fun A => (va_Ql (fun (x : Int64) (_ : Unit) => x = r) (fun (_ : Unit) t => cf_At D A (wCu K h0 a0 o0) t) A)) (by decide) (Nat.le_of_ble_eq_true rfl) ?_
  intro p e s m below meth c A ls En hsz hA hP hD hE hS hl
  have C : (dc_C p s m (([.ref h0, .int v1] : List Value).toArray) meth c cCu_cutAt 2 (Option.some Jvm.ClassFile.FieldType.long) yCu_cutAt ∧ cf_E D K A s s.heap ∧ ∀ q, s.heap.size ≤ q → A q) := ⟨En, hE, hA⟩
  exact bCu_cutAt_0 C v1 o0 r h hP hD hS hl
def IhCu_depthOf (p : Program) (l : Launch) (e : Env) (s : State) (m : MethodId) (below : List Frame) (meth : Method) (c : Code) (A : Nat → Prop) (D : va_G) (K : Nat → ClassId) (h0 : Nat) (a0 : Nat → Nat) (AR : Array Value) (n : Nat) : Prop := (∀ (v3 : Int32) (v4 : Int64) (o0 : cf_O) (r : Int32), gCu_depthOf n 0 v3 v4 o0 = some r → ∀ {H : Heap} {locs : List Loc} {ls : Array Slot}, (va_P D vwCl (wCu K h0 a0 o0) H) → (va_D A (wCu K h0 a0 o0)) → va_S A s.heap H locs → lv_has ls 6 [(0, .ref h0), (3, .int v3), (4, .long v4)] → W p l e ({ frames := 1, cells := 0, slots := 0, locals := 34 }) s m AR below meth c H locs 0 0 (MQ below (va_Qi (fun (x : Int32) (_ : Unit) => x = r) (fun (_ : Unit) t => cf_At D A (wCu K h0 a0 o0) t) A) AR s 0 0 A) (F0 m 5 ls []))
set_option maxHeartbeats 4000000 in
set_option maxRecDepth 100000 in
theorem bCu_depthOf_5 {p : Program} {l : Launch} {e : Env} {s : State} {m : MethodId} {below : List Frame} {meth : Method} {c : Code} {A : Nat → Prop} {D : va_G} {K : Nat → ClassId} {h0 : Nat} {a0 : Nat → Nat} {AR : Array Value} (C : (dc_C p s m AR meth c cCu_depthOf 6 (Option.some Jvm.ClassFile.FieldType.int) yCu_depthOf ∧ cf_E D K A s s.heap ∧ ∀ q, s.heap.size ≤ q → A q)) {n : Nat} (ih : IhCu_depthOf p l e s m below meth c A D K h0 a0 AR n) (v3 : Int32) (v4 : Int64) (o0 : cf_O) (r : Int32) (h : fCu_depthOf_5 (gCu_depthOf n) v3 v4 o0 = some r) {H : Heap} {locs : List Loc} {ls : Array Slot} (hP : va_P D vwCl (wCu K h0 a0 o0) H) (hD : va_D A (wCu K h0 a0 o0)) (hS : va_S A s.heap H locs) (hl : lv_has ls 6 [(0, .ref h0), (3, .int v3), (4, .long v4)]) : W p l e ({ frames := 1, cells := 0, slots := 0, locals := 34 }) s m AR below meth c H locs 0 0 (MQ below (va_Qi (fun (x : Int32) (_ : Unit) => x = r) (fun (_ : Unit) t => cf_At D A (wCu K h0 a0 o0) t) A) AR s 0 0 A) (F0 m 5 ls []) := by
  obtain ⟨⟨hx, hb, hr, hts, hown, hlocks, hin, hml⟩, hE, hA⟩ := id C
  have hK := hE.k
  refine lv_lload hx hb dCu_depthOf_5 (lv_at hl 2 rfl) ?_
  refine lv_lconst (v := 0) hx hb dCu_depthOf_7 (by decide) ?_
  refine W.lcmp hx hb dCu_depthOf_8 ?_
  refine lv_topi (fun x_1 ex_1 => ?_)
  have h := op_ks ex_1 h
  refine lv_if_eq (tgt := 39) hx hb dCu_depthOf_9 (by decide) (fun c_2 => ?_) (fun c_2 => ?_)
  · have h := op_t c_2 h
    refine lv_iload_n hx hb dCu_depthOf_39 rfl (lv_at hl 1 rfl) ?_
    refine lv_iconst (v := 1) hx hb dCu_depthOf_40 (by decide) ?_
    refine lv_iadd hx hb dCu_depthOf_41 ?_
    refine lv_topi (fun x_3 ex_3 => ?_)
    have h := op_ks ex_3 h
    obtain rfl := Option.some.inj h
    exact dc_iret hx hb hr hlocks rfl hP hD hS dCu_depthOf_42
  · have h := op_f c_2 h
    refine lv_iload_n hx hb dCu_depthOf_12 rfl (lv_at hl 1 rfl) ?_
    refine lv_aload_n hx hb dCu_depthOf_13 rfl (lv_at hl 0 rfl) ?_
    refine va_get (D := D) (ci := 5) (v := .ref (a0 1)) (C := RCu) (T := TCu) (N := 6) hx hb hts inCu hown hK hP 0 rfl rfl 1 (by decide) (hts _ wv_266) (fun _ h9 => h9) rfl dCu_depthOf_14 ?_
    refine lv_lload hx hb dCu_depthOf_17 (lv_at hl 2 rfl) ?_
    refine lv_ldc2 (v := 255) hx hb hown (hts _ wv_1314) dCu_depthOf_19 ?_
    refine lv_land hx hb dCu_depthOf_22 ?_
    refine lv_topl (fun x_4 ex_4 => ?_)
    have h := op_ks ex_4 h
    refine lv_l2i hx hb dCu_depthOf_23 rfl ?_
    refine lv_topi (fun x_5 ex_5 => ?_)
    have h := op_ks ex_5 h
    obtain ⟨hi_6, h⟩ := op_n h
    refine va_iald (D := D) hx hb hK hP 1 0 rfl rfl hi_6 dCu_depthOf_24 ?_
    refine lv_topi (fun x_7 ex_7 => ?_)
    have h := op_ks ex_7 h
    refine va_mmax (x := v3) (y := x_7) hx hb (hml.trans hl.1.symm) hown (hts _ wv_1330) (hts _ wv_1062) (hts _ wv_182) (hts _ wv_1063) (Nat.le_of_ble_eq_true rfl) (Nat.le_of_ble_eq_true rfl) (Nat.le_of_ble_eq_true rfl) (Nat.le_of_ble_eq_true rfl) dCu_depthOf_25 ?_
    refine lv_topi (fun x_8 ex_8 => ?_)
    have h := op_ks ex_8 h
    refine lv_istore_n (lv' := [(3, .int x_8), (0, .ref h0), (4, .long v4)]) hx hb dCu_depthOf_28 rfl hl (by decide) rfl (fun ls hl => ?_)
    refine lv_lload hx hb dCu_depthOf_29 (lv_at hl 2 rfl) ?_
    refine lv_bipush (v := 8) hx hb dCu_depthOf_31 (by decide) ?_
    refine lv_lushr hx hb dCu_depthOf_33 rfl ?_
    refine lv_topl (fun x_9 ex_9 => ?_)
    have h := op_ks ex_9 h
    refine lv_lstore (lv' := [(4, .long x_9), (3, .int x_8), (0, .ref h0)]) hx hb dCu_depthOf_34 hl (by decide) rfl (fun ls hl => ?_)
    refine lv_goto (tgt := 5) hx hb dCu_depthOf_36 (by decide) ?_
    exact (ih) _ _ _ _ h hP hD hS (lv_sub hl [2, 1, 0] rfl)
set_option maxHeartbeats 4000000 in
set_option maxRecDepth 100000 in
theorem bCu_depthOf_0 {p : Program} {l : Launch} {e : Env} {s : State} {m : MethodId} {below : List Frame} {meth : Method} {c : Code} {A : Nat → Prop} {D : va_G} {K : Nat → ClassId} {h0 : Nat} {a0 : Nat → Nat} {AR : Array Value} (C : (dc_C p s m AR meth c cCu_depthOf 6 (Option.some Jvm.ClassFile.FieldType.int) yCu_depthOf ∧ cf_E D K A s s.heap ∧ ∀ q, s.heap.size ≤ q → A q)) {n : Nat} (ih : IhCu_depthOf p l e s m below meth c A D K h0 a0 AR n) (v1 : Int64) (o0 : cf_O) (r : Int32) (h : fCu_depthOf_0 (gCu_depthOf n) v1 o0 = some r) {H : Heap} {locs : List Loc} {ls : Array Slot} (hP : va_P D vwCl (wCu K h0 a0 o0) H) (hD : va_D A (wCu K h0 a0 o0)) (hS : va_S A s.heap H locs) (hl : lv_has ls 6 [(0, .ref h0), (1, .long v1)]) : W p l e ({ frames := 1, cells := 0, slots := 0, locals := 34 }) s m AR below meth c H locs 0 0 (MQ below (va_Qi (fun (x : Int32) (_ : Unit) => x = r) (fun (_ : Unit) t => cf_At D A (wCu K h0 a0 o0) t) A) AR s 0 0 A) (F0 m 0 ls []) := by
  obtain ⟨⟨hx, hb, hr, hts, hown, hlocks, hin, hml⟩, hE, hA⟩ := id C
  have hK := hE.k
  refine lv_iconst (v := 0) hx hb dCu_depthOf_0 (by decide) ?_
  refine lv_istore_n (lv' := [(3, .int 0), (0, .ref h0), (1, .long v1)]) hx hb dCu_depthOf_1 rfl hl (by decide) rfl (fun ls hl => ?_)
  refine lv_lload_n hx hb dCu_depthOf_2 rfl (lv_at hl 2 rfl) ?_
  refine lv_lstore (lv' := [(4, .long v1), (3, .int 0), (0, .ref h0), (1, .long v1)]) hx hb dCu_depthOf_3 hl (by decide) rfl (fun ls hl => ?_)
  exact (ih) _ _ _ _ h hP hD hS (lv_sub hl [2, 1, 0] rfl)
theorem iCu_depthOf {p : Program} {l : Launch} {e : Env} {s : State} {m : MethodId} {below : List Frame} {meth : Method} {c : Code} {A : Nat → Prop} {D : va_G} {K : Nat → ClassId} {h0 : Nat} {a0 : Nat → Nat} {AR : Array Value} (C : (dc_C p s m AR meth c cCu_depthOf 6 (Option.some Jvm.ClassFile.FieldType.int) yCu_depthOf ∧ cf_E D K A s s.heap ∧ ∀ q, s.heap.size ≤ q → A q)) : ∀ n, IhCu_depthOf p l e s m below meth c A D K h0 a0 AR n := by
  intro n
  induction n with
  | zero => exact (fun _ _ _ r h => by cases (show none = some r from h))
  | succ n ih => exact fun x0 x1 x2 r h _ _ _ hP hD hS hl => bCu_depthOf_5 C ih x0 x1 x2 r h hP hD hS hl
set_option maxRecDepth 100000 in
theorem mCu_depthOf (l : Launch) (D : va_G) (K : Nat → ClassId) (sz : Nat) (v1 : Int64) (h0 : Nat) (a0 : Nat → Nat) (o0 : cf_O) (r : Int32) (h : fCu_depthOf v1 o0 = some r) : Met l yCu_depthOf (Cond.code yCu_depthOf cCu_depthOf 6 (Option.some Jvm.ClassFile.FieldType.int) :: cfB) ({ frames := 1, cells := 0, slots := 0, locals := 34 }) (va_Pc [.ref h0, .long v1] (cf_Pre D K sz (wCu K h0 a0 o0))) (va_Qi (fun (x : Int32) (_ : Unit) => x = r) (fun (_ : Unit) t => cf_At D (va_A (wCu K h0 a0 o0) sz) (wCu K h0 a0 o0) t) (va_A (wCu K h0 a0 o0) sz)) 0 0 (va_A (wCu K h0 a0 o0) sz) := by
  refine cf_ofW (y := yCu_depthOf) (As := [.ref h0, .long v1]) (WS := wCu K h0 a0 o0) (maxL := 6) (fun A => (va_Qi (fun (x : Int32) (_ : Unit) => x = r) (fun (_ : Unit) t => cf_At D A (wCu K h0 a0 o0) t) A)) (by decide) (Nat.le_of_ble_eq_true rfl) ?_
  intro p e s m below meth c A ls En hsz hA hP hD hE hS hl
  have C : (dc_C p s m (([.ref h0, .long v1] : List Value).toArray) meth c cCu_depthOf 6 (Option.some Jvm.ClassFile.FieldType.int) yCu_depthOf ∧ cf_E D K A s s.heap ∧ ∀ q, s.heap.size ≤ q → A q) := ⟨En, hE, hA⟩
  exact bCu_depthOf_0 C (iCu_depthOf C cfFU) v1 o0 r h hP hD hS hl
def IhCv_unwantedIn (p : Program) (l : Launch) (e : Env) (s : State) (m : MethodId) (below : List Frame) (meth : Method) (c : Code) (A : Nat → Prop) (D : va_G) (K : Nat → ClassId) (h0 : Nat) (a0 : Nat → Nat) (h1 : Nat) (a1 : Nat → Nat) (AR : Array Value) (n : Nat) : Prop := (∀ (v4 : Int32) (v5 : Int64) (o0 : cf_O) (o1 : cf_O) (r : Int32), gCv_unwantedIn n 0 v4 v5 o0 o1 = some r → ∀ {H : Heap} {locs : List Loc} {ls : Array Slot}, (va_P D vwCl (wCv K h0 a0 o0 ++ wGr K h1 a1 o1) H) → (va_D A (wCv K h0 a0 o0 ++ wGr K h1 a1 o1)) → va_S A s.heap H locs → lv_has ls 8 [(0, .ref h0), (1, .ref h1), (4, .int v4), (5, .long v5)] → W p l e ({ frames := 2, cells := 0, slots := 0, locals := 41 }) s m AR below meth c H locs 0 0 (MQ below (va_Qi (fun (x : Int32) (_ : Unit) => x = r) (fun (_ : Unit) t => cf_At D A (wCv K h0 a0 o0 ++ wGr K h1 a1 o1) t) A) AR s 0 0 A) (F0 m 6 ls []))
set_option maxHeartbeats 4000000 in
set_option maxRecDepth 100000 in
theorem bCv_unwantedIn_49 {p : Program} {l : Launch} {e : Env} {s : State} {m : MethodId} {below : List Frame} {meth : Method} {c : Code} {A : Nat → Prop} {D : va_G} {K : Nat → ClassId} {h0 : Nat} {a0 : Nat → Nat} {h1 : Nat} {a1 : Nat → Nat} {AR : Array Value} (C : (dc_C p s m AR meth c cCv_unwantedIn 8 (Option.some Jvm.ClassFile.FieldType.int) yCv_unwantedIn ∧ cf_E D K A s s.heap ∧ ∀ q, s.heap.size ≤ q → A q)) {n : Nat} (ih : IhCv_unwantedIn p l e s m below meth c A D K h0 a0 h1 a1 AR n) (v5 : Int64) (s0 : Int32) (s1 : Int32) (o0 : cf_O) (o1 : cf_O) (r : Int32) (h : fCv_unwantedIn_49 (gCv_unwantedIn n) v5 s0 s1 o0 o1 = some r) {H : Heap} {locs : List Loc} {ls : Array Slot} (hP : va_P D vwCl (wCv K h0 a0 o0 ++ wGr K h1 a1 o1) H) (hD : va_D A (wCv K h0 a0 o0 ++ wGr K h1 a1 o1)) (hS : va_S A s.heap H locs) (hl : lv_has ls 8 [(0, .ref h0), (1, .ref h1), (5, .long v5)]) : W p l e ({ frames := 2, cells := 0, slots := 0, locals := 41 }) s m AR below meth c H locs 0 0 (MQ below (va_Qi (fun (x : Int32) (_ : Unit) => x = r) (fun (_ : Unit) t => cf_At D A (wCv K h0 a0 o0 ++ wGr K h1 a1 o1) t) A) AR s 0 0 A) (F0 m 49 ls [.int s1, .int s0]) := by
  obtain ⟨⟨hx, hb, hr, hts, hown, hlocks, hin, hml⟩, hE, hA⟩ := id C
  have hK := hE.k
  refine lv_iadd hx hb dCv_unwantedIn_49 ?_
  refine lv_topi (fun x_1 ex_1 => ?_)
  have h := op_ks ex_1 h
  refine lv_istore (lv' := [(4, .int x_1), (0, .ref h0), (1, .ref h1), (5, .long v5)]) hx hb dCv_unwantedIn_50 hl (by decide) rfl (fun ls hl => ?_)
  refine lv_lload hx hb dCv_unwantedIn_52 (lv_at hl 3 rfl) ?_
  refine lv_bipush (v := 8) hx hb dCv_unwantedIn_54 (by decide) ?_
  refine lv_lushr hx hb dCv_unwantedIn_56 rfl ?_
  refine lv_topl (fun x_2 ex_2 => ?_)
  have h := op_ks ex_2 h
  refine lv_lstore (lv' := [(5, .long x_2), (4, .int x_1), (0, .ref h0), (1, .ref h1)]) hx hb dCv_unwantedIn_57 hl (by decide) rfl (fun ls hl => ?_)
  refine lv_goto (tgt := 6) hx hb dCv_unwantedIn_59 (by decide) ?_
  exact (ih) _ _ _ _ _ h hP hD hS (lv_sub hl [2, 3, 1, 0] rfl)
set_option maxHeartbeats 4000000 in
set_option maxRecDepth 100000 in
theorem bCv_unwantedIn_48 {p : Program} {l : Launch} {e : Env} {s : State} {m : MethodId} {below : List Frame} {meth : Method} {c : Code} {A : Nat → Prop} {D : va_G} {K : Nat → ClassId} {h0 : Nat} {a0 : Nat → Nat} {h1 : Nat} {a1 : Nat → Nat} {AR : Array Value} (C : (dc_C p s m AR meth c cCv_unwantedIn 8 (Option.some Jvm.ClassFile.FieldType.int) yCv_unwantedIn ∧ cf_E D K A s s.heap ∧ ∀ q, s.heap.size ≤ q → A q)) {n : Nat} (ih : IhCv_unwantedIn p l e s m below meth c A D K h0 a0 h1 a1 AR n) (v5 : Int64) (s0 : Int32) (o0 : cf_O) (o1 : cf_O) (r : Int32) (h : fCv_unwantedIn_48 (gCv_unwantedIn n) v5 s0 o0 o1 = some r) {H : Heap} {locs : List Loc} {ls : Array Slot} (hP : va_P D vwCl (wCv K h0 a0 o0 ++ wGr K h1 a1 o1) H) (hD : va_D A (wCv K h0 a0 o0 ++ wGr K h1 a1 o1)) (hS : va_S A s.heap H locs) (hl : lv_has ls 8 [(0, .ref h0), (1, .ref h1), (5, .long v5)]) : W p l e ({ frames := 2, cells := 0, slots := 0, locals := 41 }) s m AR below meth c H locs 0 0 (MQ below (va_Qi (fun (x : Int32) (_ : Unit) => x = r) (fun (_ : Unit) t => cf_At D A (wCv K h0 a0 o0 ++ wGr K h1 a1 o1) t) A) AR s 0 0 A) (F0 m 48 ls [.int s0]) := by
  obtain ⟨⟨hx, hb, hr, hts, hown, hlocks, hin, hml⟩, hE, hA⟩ := id C
  have hK := hE.k
  refine lv_iconst (v := 0) hx hb dCv_unwantedIn_48 (by decide) ?_
  exact bCv_unwantedIn_49 C ih _ _ _ _ _ _ h hP hD hS (lv_sub hl [0, 1, 2] rfl)
set_option maxHeartbeats 4000000 in
set_option maxRecDepth 100000 in
theorem bCv_unwantedIn_6 {p : Program} {l : Launch} {e : Env} {s : State} {m : MethodId} {below : List Frame} {meth : Method} {c : Code} {A : Nat → Prop} {D : va_G} {K : Nat → ClassId} {h0 : Nat} {a0 : Nat → Nat} {h1 : Nat} {a1 : Nat → Nat} {AR : Array Value} (C : (dc_C p s m AR meth c cCv_unwantedIn 8 (Option.some Jvm.ClassFile.FieldType.int) yCv_unwantedIn ∧ cf_E D K A s s.heap ∧ ∀ q, s.heap.size ≤ q → A q)) {n : Nat} (ih : IhCv_unwantedIn p l e s m below meth c A D K h0 a0 h1 a1 AR n) (v4 : Int32) (v5 : Int64) (o0 : cf_O) (o1 : cf_O) (r : Int32) (h : fCv_unwantedIn_6 (gCv_unwantedIn n) v4 v5 o0 o1 = some r) {H : Heap} {locs : List Loc} {ls : Array Slot} (hP : va_P D vwCl (wCv K h0 a0 o0 ++ wGr K h1 a1 o1) H) (hD : va_D A (wCv K h0 a0 o0 ++ wGr K h1 a1 o1)) (hS : va_S A s.heap H locs) (hl : lv_has ls 8 [(0, .ref h0), (1, .ref h1), (4, .int v4), (5, .long v5)]) : W p l e ({ frames := 2, cells := 0, slots := 0, locals := 41 }) s m AR below meth c H locs 0 0 (MQ below (va_Qi (fun (x : Int32) (_ : Unit) => x = r) (fun (_ : Unit) t => cf_At D A (wCv K h0 a0 o0 ++ wGr K h1 a1 o1) t) A) AR s 0 0 A) (F0 m 6 ls []) := by
  obtain ⟨⟨hx, hb, hr, hts, hown, hlocks, hin, hml⟩, hE, hA⟩ := id C
  have hK := hE.k
  refine lv_lload hx hb dCv_unwantedIn_6 (lv_at hl 3 rfl) ?_
  refine lv_lconst (v := 0) hx hb dCv_unwantedIn_8 (by decide) ?_
  refine W.lcmp hx hb dCv_unwantedIn_9 ?_
  refine lv_topi (fun x_1 ex_1 => ?_)
  have h := op_ks ex_1 h
  refine lv_if_eq (tgt := 62) hx hb dCv_unwantedIn_10 (by decide) (fun c_2 => ?_) (fun c_2 => ?_)
  · have h := op_t c_2 h
    refine lv_iload hx hb dCv_unwantedIn_62 (lv_at hl 2 rfl) ?_
    obtain rfl := Option.some.inj h
    exact dc_iret hx hb hr hlocks rfl hP hD hS dCv_unwantedIn_64
  · have h := op_f c_2 h
    refine lv_lload hx hb dCv_unwantedIn_13 (lv_at hl 3 rfl) ?_
    refine lv_ldc2 (v := 255) hx hb hown (hts _ wv_1484) dCv_unwantedIn_15 ?_
    refine lv_land hx hb dCv_unwantedIn_18 ?_
    refine lv_topl (fun x_3 ex_3 => ?_)
    have h := op_ks ex_3 h
    refine lv_l2i hx hb dCv_unwantedIn_19 rfl ?_
    refine lv_topi (fun x_4 ex_4 => ?_)
    have h := op_ks ex_4 h
    refine lv_istore (lv' := [(7, .int x_4), (0, .ref h0), (1, .ref h1), (4, .int v4), (5, .long v5)]) hx hb dCv_unwantedIn_20 hl (by decide) rfl (fun ls hl => ?_)
    refine lv_iload hx hb dCv_unwantedIn_22 (lv_at hl 3 rfl) ?_
    refine lv_aload_n hx hb dCv_unwantedIn_24 rfl (lv_at hl 2 rfl) ?_
    refine lv_iload hx hb dCv_unwantedIn_25 (lv_at hl 0 rfl) ?_
    obtain ⟨q_5, hq_5, h⟩ := op_b h
    refine cf_calli (wc := wGr K h1 a1 o1) (wr := wCv K h0 a0 o0) (va_runV (As := [.int x_4]) (rest := [.int v4]) ⟨hx, hb, hml, hown, hts⟩ (mGr_isGate l D K _ x_4 h1 a1 o1 _ hq_5) (cwV 1 hts (cf_GV wv_1466 wv_1128 wv_1129 wv_171 wv_1130) rfl rfl rfl (by decide +kernel) ⟨Nat.le_of_ble_eq_true rfl, Nat.le_of_ble_eq_true rfl⟩) (cf_preV (wc := wGr K h1 a1 o1) hE hP hD hS hA rfl 6 rfl [6, 7, 8, 9, 10, 11, 12] rfl (by decide +kernel)) rfl rfl hl.1 rfl (lv_room (Nat.le_of_ble_eq_true rfl)) dCv_unwantedIn_27 ⟨Nat.le_of_ble_eq_true rfl, Nat.le_of_ble_eq_true rfl⟩) hP hD hS hA [6, 7, 8, 9, 10, 11, 12] [0, 1, 2, 3, 4, 5] rfl rfl (by decide +kernel) (by decide +kernel) (fun r_6 _ H locs hw_7 hP hD hS => ?_)
    subst r_6
    have hP : va_P D vwCl (wCv K h0 a0 o0 ++ wGr K h1 a1 o1) H := hP.sub [0, 1, 2, 3, 4, 5, 6, 7, 8, 9, 10, 11, 12] rfl
    have hD : va_D A (wCv K h0 a0 o0 ++ wGr K h1 a1 o1) := hD.sub [0, 1, 2, 3, 4, 5, 6, 7, 8, 9, 10, 11, 12] (by decide +kernel) rfl
    refine lv_if_eq (tgt := 48) hx hb dCv_unwantedIn_30 (by decide) (fun c_8 => ?_) (fun c_8 => ?_)
    · have h := op_t c_8 h
      exact bCv_unwantedIn_48 C ih _ _ _ _ _ h hP hD hS (lv_sub hl [1, 2, 4] rfl)
    · have h := op_f c_8 h
      refine lv_aload_n hx hb dCv_unwantedIn_33 rfl (lv_at hl 1 rfl) ?_
      refine va_get (D := D) (ci := 8) (v := .ref (a0 6)) (C := RCv) (T := TCv) (N := 7) hx hb hts inCv hown hK hP 0 rfl rfl 6 (by decide) (hts _ wv_380) (fun _ h9 => h9) rfl dCv_unwantedIn_34 ?_
      refine lv_iload hx hb dCv_unwantedIn_37 (lv_at hl 0 rfl) ?_
      obtain ⟨hi_9, h⟩ := op_n h
      refine va_iald (D := D) hx hb hK hP 5 0 rfl rfl hi_9 dCv_unwantedIn_39 ?_
      refine lv_topi (fun x_10 ex_10 => ?_)
      have h := op_ks ex_10 h
      refine lv_iconst (v := (-1)) hx hb dCv_unwantedIn_40 (by decide) ?_
      refine lv_icmp_ne (tgt := 48) hx hb dCv_unwantedIn_41 (by decide) (fun c_11 => ?_) (fun c_11 => ?_)
      · have h := op_f c_11 h
        exact bCv_unwantedIn_48 C ih _ _ _ _ _ h hP hD hS (lv_sub hl [1, 2, 4] rfl)
      · have h := op_t c_11 h
        refine lv_iconst (v := 1) hx hb dCv_unwantedIn_44 (by decide) ?_
        refine lv_goto (tgt := 49) hx hb dCv_unwantedIn_45 (by decide) ?_
        exact bCv_unwantedIn_49 C ih _ _ _ _ _ _ h hP hD hS (lv_sub hl [1, 2, 4] rfl)
set_option maxHeartbeats 4000000 in
set_option maxRecDepth 100000 in
theorem bCv_unwantedIn_0 {p : Program} {l : Launch} {e : Env} {s : State} {m : MethodId} {below : List Frame} {meth : Method} {c : Code} {A : Nat → Prop} {D : va_G} {K : Nat → ClassId} {h0 : Nat} {a0 : Nat → Nat} {h1 : Nat} {a1 : Nat → Nat} {AR : Array Value} (C : (dc_C p s m AR meth c cCv_unwantedIn 8 (Option.some Jvm.ClassFile.FieldType.int) yCv_unwantedIn ∧ cf_E D K A s s.heap ∧ ∀ q, s.heap.size ≤ q → A q)) {n : Nat} (ih : IhCv_unwantedIn p l e s m below meth c A D K h0 a0 h1 a1 AR n) (v2 : Int64) (o0 : cf_O) (o1 : cf_O) (r : Int32) (h : fCv_unwantedIn_0 (gCv_unwantedIn n) v2 o0 o1 = some r) {H : Heap} {locs : List Loc} {ls : Array Slot} (hP : va_P D vwCl (wCv K h0 a0 o0 ++ wGr K h1 a1 o1) H) (hD : va_D A (wCv K h0 a0 o0 ++ wGr K h1 a1 o1)) (hS : va_S A s.heap H locs) (hl : lv_has ls 8 [(0, .ref h0), (1, .ref h1), (2, .long v2)]) : W p l e ({ frames := 2, cells := 0, slots := 0, locals := 41 }) s m AR below meth c H locs 0 0 (MQ below (va_Qi (fun (x : Int32) (_ : Unit) => x = r) (fun (_ : Unit) t => cf_At D A (wCv K h0 a0 o0 ++ wGr K h1 a1 o1) t) A) AR s 0 0 A) (F0 m 0 ls []) := by
  obtain ⟨⟨hx, hb, hr, hts, hown, hlocks, hin, hml⟩, hE, hA⟩ := id C
  have hK := hE.k
  refine lv_iconst (v := 0) hx hb dCv_unwantedIn_0 (by decide) ?_
  refine lv_istore (lv' := [(4, .int 0), (0, .ref h0), (1, .ref h1), (2, .long v2)]) hx hb dCv_unwantedIn_1 hl (by decide) rfl (fun ls hl => ?_)
  refine lv_lload_n hx hb dCv_unwantedIn_3 rfl (lv_at hl 3 rfl) ?_
  refine lv_lstore (lv' := [(5, .long v2), (4, .int 0), (0, .ref h0), (1, .ref h1), (2, .long v2)]) hx hb dCv_unwantedIn_4 hl (by decide) rfl (fun ls hl => ?_)
  exact (ih) _ _ _ _ _ h hP hD hS (lv_sub hl [2, 3, 1, 0] rfl)
theorem iCv_unwantedIn {p : Program} {l : Launch} {e : Env} {s : State} {m : MethodId} {below : List Frame} {meth : Method} {c : Code} {A : Nat → Prop} {D : va_G} {K : Nat → ClassId} {h0 : Nat} {a0 : Nat → Nat} {h1 : Nat} {a1 : Nat → Nat} {AR : Array Value} (C : (dc_C p s m AR meth c cCv_unwantedIn 8 (Option.some Jvm.ClassFile.FieldType.int) yCv_unwantedIn ∧ cf_E D K A s s.heap ∧ ∀ q, s.heap.size ≤ q → A q)) : ∀ n, IhCv_unwantedIn p l e s m below meth c A D K h0 a0 h1 a1 AR n := by
  intro n
  induction n with
  | zero => exact (fun _ _ _ _ r h => by cases (show none = some r from h))
  | succ n ih => exact fun x0 x1 x2 x3 r h _ _ _ hP hD hS hl => bCv_unwantedIn_6 C ih x0 x1 x2 x3 r h hP hD hS hl
set_option maxRecDepth 100000 in
theorem mCv_unwantedIn (l : Launch) (D : va_G) (K : Nat → ClassId) (sz : Nat) (v2 : Int64) (h0 : Nat) (a0 : Nat → Nat) (h1 : Nat) (a1 : Nat → Nat) (o0 : cf_O) (o1 : cf_O) (r : Int32) (h : fCv_unwantedIn v2 o0 o1 = some r) : Met l yCv_unwantedIn (Cond.code yCv_unwantedIn cCv_unwantedIn 8 (Option.some Jvm.ClassFile.FieldType.int) :: cfB) ({ frames := 2, cells := 0, slots := 0, locals := 41 }) (va_Pc [.ref h0, .ref h1, .long v2] (cf_Pre D K sz (wCv K h0 a0 o0 ++ wGr K h1 a1 o1))) (va_Qi (fun (x : Int32) (_ : Unit) => x = r) (fun (_ : Unit) t => cf_At D (va_A (wCv K h0 a0 o0 ++ wGr K h1 a1 o1) sz) (wCv K h0 a0 o0 ++ wGr K h1 a1 o1) t) (va_A (wCv K h0 a0 o0 ++ wGr K h1 a1 o1) sz)) 0 0 (va_A (wCv K h0 a0 o0 ++ wGr K h1 a1 o1) sz) := by
  refine cf_ofW (y := yCv_unwantedIn) (As := [.ref h0, .ref h1, .long v2]) (WS := wCv K h0 a0 o0 ++ wGr K h1 a1 o1) (maxL := 8) (fun A => (va_Qi (fun (x : Int32) (_ : Unit) => x = r) (fun (_ : Unit) t => cf_At D A (wCv K h0 a0 o0 ++ wGr K h1 a1 o1) t) A)) (by decide) (Nat.le_of_ble_eq_true rfl) ?_
  intro p e s m below meth c A ls En hsz hA hP hD hE hS hl
  have C : (dc_C p s m (([.ref h0, .ref h1, .long v2] : List Value).toArray) meth c cCv_unwantedIn 8 (Option.some Jvm.ClassFile.FieldType.int) yCv_unwantedIn ∧ cf_E D K A s s.heap ∧ ∀ q, s.heap.size ≤ q → A q) := ⟨En, hE, hA⟩
  exact bCv_unwantedIn_0 C (iCv_unwantedIn C cfFU) v2 o0 o1 r h hP hD hS hl
def IhCv_fewest (p : Program) (l : Launch) (e : Env) (s : State) (m : MethodId) (below : List Frame) (meth : Method) (c : Code) (A : Nat → Prop) (D : va_G) (K : Nat → ClassId) (h0 : Nat) (a0 : Nat → Nat) (h1 : Nat) (a1 : Nat → Nat) (h2 : Nat) (a2 : Nat → Nat) (AR : Array Value) (n : Nat) : Prop := (∀ (v3 : Int32) (v4 : Int64) (v6 : Int32) (v7 : Int32) (o0 : cf_O) (o1 : cf_O) (o2 : cf_O) (r : Int64), gCv_fewest n 0 v3 v4 v6 v7 o0 o1 o2 = some r → ∀ {H : Heap} {locs : List Loc} {ls : Array Slot}, (va_P D vwCl (wCv K h0 a0 o0 ++ wGr K h1 a1 o1 ++ wCu K h2 a2 o2) H) → (va_D A (wCv K h0 a0 o0 ++ wGr K h1 a1 o1 ++ wCu K h2 a2 o2)) → va_S A s.heap H locs → lv_has ls 11 [(0, .ref h0), (1, .ref h1), (2, .ref h2), (3, .int v3), (4, .long v4), (6, .int v6), (7, .int v7)] → W p l e ({ frames := 3, cells := 0, slots := 0, locals := 68 }) s m AR below meth c H locs 0 0 (MQ below (va_Ql (fun (x : Int64) (_ : Unit) => x = r) (fun (_ : Unit) t => cf_At D A (wCv K h0 a0 o0 ++ wGr K h1 a1 o1 ++ wCu K h2 a2 o2) t) A) AR s 0 0 A) (F0 m 17 ls []))
set_option maxHeartbeats 4000000 in
set_option maxRecDepth 100000 in
theorem bCv_fewest_92 {p : Program} {l : Launch} {e : Env} {s : State} {m : MethodId} {below : List Frame} {meth : Method} {c : Code} {A : Nat → Prop} {D : va_G} {K : Nat → ClassId} {h0 : Nat} {a0 : Nat → Nat} {h1 : Nat} {a1 : Nat → Nat} {h2 : Nat} {a2 : Nat → Nat} {AR : Array Value} (C : (dc_C p s m AR meth c cCv_fewest 11 (Option.some Jvm.ClassFile.FieldType.long) yCv_fewest ∧ cf_E D K A s s.heap ∧ ∀ q, s.heap.size ≤ q → A q)) {n : Nat} (ih : IhCv_fewest p l e s m below meth c A D K h0 a0 h1 a1 h2 a2 AR n) (v3 : Int32) (v4 : Int64) (v6 : Int32) (v7 : Int32) (o0 : cf_O) (o1 : cf_O) (o2 : cf_O) (r : Int64) (h : fCv_fewest_92 (gCv_fewest n) v3 v4 v6 v7 o0 o1 o2 = some r) {H : Heap} {locs : List Loc} {ls : Array Slot} (hP : va_P D vwCl (wCv K h0 a0 o0 ++ wGr K h1 a1 o1 ++ wCu K h2 a2 o2) H) (hD : va_D A (wCv K h0 a0 o0 ++ wGr K h1 a1 o1 ++ wCu K h2 a2 o2)) (hS : va_S A s.heap H locs) (hl : lv_has ls 11 [(0, .ref h0), (1, .ref h1), (2, .ref h2), (3, .int v3), (4, .long v4), (6, .int v6), (7, .int v7)]) : W p l e ({ frames := 3, cells := 0, slots := 0, locals := 68 }) s m AR below meth c H locs 0 0 (MQ below (va_Ql (fun (x : Int64) (_ : Unit) => x = r) (fun (_ : Unit) t => cf_At D A (wCv K h0 a0 o0 ++ wGr K h1 a1 o1 ++ wCu K h2 a2 o2) t) A) AR s 0 0 A) (F0 m 92 ls []) := by
  obtain ⟨⟨hx, hb, hr, hts, hown, hlocks, hin, hml⟩, hE, hA⟩ := id C
  have hK := hE.k
  obtain ⟨x_1, ex_1⟩ : ∃ y : Int32, y = v7 + 1 := ⟨_, rfl⟩
  refine lv_iinc (v := x_1) (lv' := [(7, .int x_1), (0, .ref h0), (1, .ref h1), (2, .ref h2), (3, .int v3), (4, .long v4), (6, .int v6)]) hx hb dCv_fewest_92 hl (k := 6) rfl (by rw [ex_1]; rfl) (by decide) rfl (fun ls hl => ?_)
  have h := op_ks ex_1 h
  refine lv_goto (tgt := 17) hx hb dCv_fewest_95 (by decide) ?_
  exact (ih) _ _ _ _ _ _ _ _ h hP hD hS (lv_sub hl [1, 2, 3, 4, 5, 6, 0] rfl)
set_option maxHeartbeats 4000000 in
set_option maxRecDepth 100000 in
theorem bCv_fewest_84 {p : Program} {l : Launch} {e : Env} {s : State} {m : MethodId} {below : List Frame} {meth : Method} {c : Code} {A : Nat → Prop} {D : va_G} {K : Nat → ClassId} {h0 : Nat} {a0 : Nat → Nat} {h1 : Nat} {a1 : Nat → Nat} {h2 : Nat} {a2 : Nat → Nat} {AR : Array Value} (C : (dc_C p s m AR meth c cCv_fewest 11 (Option.some Jvm.ClassFile.FieldType.long) yCv_fewest ∧ cf_E D K A s s.heap ∧ ∀ q, s.heap.size ≤ q → A q)) {n : Nat} (ih : IhCv_fewest p l e s m below meth c A D K h0 a0 h1 a1 h2 a2 AR n) (v3 : Int32) (v7 : Int32) (v8 : Int64) (v10 : Int32) (o0 : cf_O) (o1 : cf_O) (o2 : cf_O) (r : Int64) (h : fCv_fewest_84 (gCv_fewest n) v3 v7 v8 v10 o0 o1 o2 = some r) {H : Heap} {locs : List Loc} {ls : Array Slot} (hP : va_P D vwCl (wCv K h0 a0 o0 ++ wGr K h1 a1 o1 ++ wCu K h2 a2 o2) H) (hD : va_D A (wCv K h0 a0 o0 ++ wGr K h1 a1 o1 ++ wCu K h2 a2 o2)) (hS : va_S A s.heap H locs) (hl : lv_has ls 11 [(0, .ref h0), (1, .ref h1), (2, .ref h2), (3, .int v3), (7, .int v7), (8, .long v8), (10, .int v10)]) : W p l e ({ frames := 3, cells := 0, slots := 0, locals := 68 }) s m AR below meth c H locs 0 0 (MQ below (va_Ql (fun (x : Int64) (_ : Unit) => x = r) (fun (_ : Unit) t => cf_At D A (wCv K h0 a0 o0 ++ wGr K h1 a1 o1 ++ wCu K h2 a2 o2) t) A) AR s 0 0 A) (F0 m 84 ls []) := by
  obtain ⟨⟨hx, hb, hr, hts, hown, hlocks, hin, hml⟩, hE, hA⟩ := id C
  have hK := hE.k
  refine lv_iload hx hb dCv_fewest_84 (lv_at hl 6 rfl) ?_
  refine lv_istore (lv' := [(6, .int v10), (0, .ref h0), (1, .ref h1), (2, .ref h2), (3, .int v3), (7, .int v7), (8, .long v8), (10, .int v10)]) hx hb dCv_fewest_86 hl (by decide) rfl (fun ls hl => ?_)
  refine lv_lload hx hb dCv_fewest_88 (lv_at hl 6 rfl) ?_
  refine lv_lstore (lv' := [(4, .long v8), (6, .int v10), (0, .ref h0), (1, .ref h1), (2, .ref h2), (3, .int v3), (7, .int v7), (8, .long v8), (10, .int v10)]) hx hb dCv_fewest_90 hl (by decide) rfl (fun ls hl => ?_)
  exact bCv_fewest_92 C ih _ _ _ _ _ _ _ _ h hP hD hS (lv_sub hl [2, 3, 4, 5, 0, 1, 6] rfl)
set_option maxHeartbeats 4000000 in
set_option maxRecDepth 100000 in
theorem bCv_fewest_17 {p : Program} {l : Launch} {e : Env} {s : State} {m : MethodId} {below : List Frame} {meth : Method} {c : Code} {A : Nat → Prop} {D : va_G} {K : Nat → ClassId} {h0 : Nat} {a0 : Nat → Nat} {h1 : Nat} {a1 : Nat → Nat} {h2 : Nat} {a2 : Nat → Nat} {AR : Array Value} (C : (dc_C p s m AR meth c cCv_fewest 11 (Option.some Jvm.ClassFile.FieldType.long) yCv_fewest ∧ cf_E D K A s s.heap ∧ ∀ q, s.heap.size ≤ q → A q)) {n : Nat} (ih : IhCv_fewest p l e s m below meth c A D K h0 a0 h1 a1 h2 a2 AR n) (v3 : Int32) (v4 : Int64) (v6 : Int32) (v7 : Int32) (o0 : cf_O) (o1 : cf_O) (o2 : cf_O) (r : Int64) (h : fCv_fewest_17 (gCv_fewest n) v3 v4 v6 v7 o0 o1 o2 = some r) {H : Heap} {locs : List Loc} {ls : Array Slot} (hP : va_P D vwCl (wCv K h0 a0 o0 ++ wGr K h1 a1 o1 ++ wCu K h2 a2 o2) H) (hD : va_D A (wCv K h0 a0 o0 ++ wGr K h1 a1 o1 ++ wCu K h2 a2 o2)) (hS : va_S A s.heap H locs) (hl : lv_has ls 11 [(0, .ref h0), (1, .ref h1), (2, .ref h2), (3, .int v3), (4, .long v4), (6, .int v6), (7, .int v7)]) : W p l e ({ frames := 3, cells := 0, slots := 0, locals := 68 }) s m AR below meth c H locs 0 0 (MQ below (va_Ql (fun (x : Int64) (_ : Unit) => x = r) (fun (_ : Unit) t => cf_At D A (wCv K h0 a0 o0 ++ wGr K h1 a1 o1 ++ wCu K h2 a2 o2) t) A) AR s 0 0 A) (F0 m 17 ls []) := by
  obtain ⟨⟨hx, hb, hr, hts, hown, hlocks, hin, hml⟩, hE, hA⟩ := id C
  have hK := hE.k
  refine lv_iload hx hb dCv_fewest_17 (lv_at hl 6 rfl) ?_
  refine lv_aload_n hx hb dCv_fewest_19 rfl (lv_at hl 2 rfl) ?_
  refine lv_iload_n hx hb dCv_fewest_20 rfl (lv_at hl 3 rfl) ?_
  obtain ⟨q_1, hq_1, h⟩ := op_b h
  refine cf_calli (wc := wCu K h2 a2 o2) (wr := wCv K h0 a0 o0 ++ wGr K h1 a1 o1) (va_runV (As := [.int v3]) (rest := [.int v7]) ⟨hx, hb, hml, hown, hts⟩ (mCu_behindLastOf l D K _ v3 h2 a2 o2 _ hq_1) (cwV 1 hts (cf_GV wv_1474 wv_1346 wv_1347 wv_160 wv_1348) rfl rfl rfl (by decide +kernel) ⟨Nat.le_of_ble_eq_true rfl, Nat.le_of_ble_eq_true rfl⟩) (cf_preV (wc := wCu K h2 a2 o2) hE hP hD hS hA rfl 13 rfl [13, 14, 15, 16, 17] rfl (by decide +kernel)) rfl rfl hl.1 rfl (lv_room (Nat.le_of_ble_eq_true rfl)) dCv_fewest_21 ⟨Nat.le_of_ble_eq_true rfl, Nat.le_of_ble_eq_true rfl⟩) hP hD hS hA [13, 14, 15, 16, 17] [0, 1, 2, 3, 4, 5, 6, 7, 8, 9, 10, 11, 12] rfl rfl (by decide +kernel) (by decide +kernel) (fun r_2 _ H locs hw_3 hP hD hS => ?_)
  subst r_2
  have hP : va_P D vwCl (wCv K h0 a0 o0 ++ wGr K h1 a1 o1 ++ wCu K h2 a2 o2) H := hP.sub [0, 1, 2, 3, 4, 5, 6, 7, 8, 9, 10, 11, 12, 13, 14, 15, 16, 17] rfl
  have hD : va_D A (wCv K h0 a0 o0 ++ wGr K h1 a1 o1 ++ wCu K h2 a2 o2) := hD.sub [0, 1, 2, 3, 4, 5, 6, 7, 8, 9, 10, 11, 12, 13, 14, 15, 16, 17] (by decide +kernel) rfl
  refine lv_icmp_ge (tgt := 98) hx hb dCv_fewest_24 (by decide) (fun c_4 => ?_) (fun c_4 => ?_)
  · have h := op_t c_4 h
    refine lv_lload hx hb dCv_fewest_98 (lv_at hl 4 rfl) ?_
    obtain rfl := Option.some.inj h
    exact dc_lret hx hb hr hlocks rfl hP hD hS dCv_fewest_100
  · have h := op_f c_4 h
    refine lv_aload_n hx hb dCv_fewest_27 rfl (lv_at hl 2 rfl) ?_
    refine lv_iload hx hb dCv_fewest_28 (lv_at hl 6 rfl) ?_
    obtain ⟨q_5, hq_5, h⟩ := op_b h
    refine cf_calll (wc := wCu K h2 a2 o2) (wr := wCv K h0 a0 o0 ++ wGr K h1 a1 o1) (va_runV (As := [.int v7]) (rest := []) ⟨hx, hb, hml, hown, hts⟩ (mCu_cutAt l D K _ v7 h2 a2 o2 _ hq_5) (cwV 1 hts (cf_GV wv_1475 wv_1476 wv_1477 wv_160 wv_1478) rfl rfl rfl (by decide +kernel) ⟨Nat.le_of_ble_eq_true rfl, Nat.le_of_ble_eq_true rfl⟩) (cf_preV (wc := wCu K h2 a2 o2) hE hP hD hS hA rfl 13 rfl [13, 14, 15, 16, 17] rfl (by decide +kernel)) rfl rfl hl.1 rfl (lv_room (Nat.le_of_ble_eq_true rfl)) dCv_fewest_30 ⟨Nat.le_of_ble_eq_true rfl, Nat.le_of_ble_eq_true rfl⟩) hP hD hS hA [13, 14, 15, 16, 17] [0, 1, 2, 3, 4, 5, 6, 7, 8, 9, 10, 11, 12] rfl rfl (by decide +kernel) (by decide +kernel) (fun r_6 _ H locs hw_7 hP hD hS => ?_)
    subst r_6
    have hP : va_P D vwCl (wCv K h0 a0 o0 ++ wGr K h1 a1 o1 ++ wCu K h2 a2 o2) H := hP.sub [0, 1, 2, 3, 4, 5, 6, 7, 8, 9, 10, 11, 12, 13, 14, 15, 16, 17] rfl
    have hD : va_D A (wCv K h0 a0 o0 ++ wGr K h1 a1 o1 ++ wCu K h2 a2 o2) := hD.sub [0, 1, 2, 3, 4, 5, 6, 7, 8, 9, 10, 11, 12, 13, 14, 15, 16, 17] (by decide +kernel) rfl
    refine lv_lstore (lv' := [(8, .long q_5), (0, .ref h0), (1, .ref h1), (2, .ref h2), (3, .int v3), (4, .long v4), (6, .int v6), (7, .int v7)]) hx hb dCv_fewest_33 hl (by decide) rfl (fun ls hl => ?_)
    refine lv_aload_n hx hb dCv_fewest_35 rfl (lv_at hl 3 rfl) ?_
    refine lv_lload hx hb dCv_fewest_36 (lv_at hl 0 rfl) ?_
    obtain ⟨q_8, hq_8, h⟩ := op_b h
    refine cf_calli (wc := wCu K h2 a2 o2) (wr := wCv K h0 a0 o0 ++ wGr K h1 a1 o1) (va_runV (As := [.long q_5]) (rest := []) ⟨hx, hb, hml, hown, hts⟩ (mCu_depthOf l D K _ q_5 h2 a2 o2 _ hq_8) (cwV 1 hts (cf_GV wv_1479 wv_1327 wv_1328 wv_160 wv_1329) rfl rfl rfl (by decide +kernel) ⟨Nat.le_of_ble_eq_true rfl, Nat.le_of_ble_eq_true rfl⟩) (cf_preV (wc := wCu K h2 a2 o2) hE hP hD hS hA rfl 13 rfl [13, 14, 15, 16, 17] rfl (by decide +kernel)) rfl rfl hl.1 rfl (lv_room (Nat.le_of_ble_eq_true rfl)) dCv_fewest_38 ⟨Nat.le_of_ble_eq_true rfl, Nat.le_of_ble_eq_true rfl⟩) hP hD hS hA [13, 14, 15, 16, 17] [0, 1, 2, 3, 4, 5, 6, 7, 8, 9, 10, 11, 12] rfl rfl (by decide +kernel) (by decide +kernel) (fun r_9 _ H locs hw_10 hP hD hS => ?_)
    subst r_9
    have hP : va_P D vwCl (wCv K h0 a0 o0 ++ wGr K h1 a1 o1 ++ wCu K h2 a2 o2) H := hP.sub [0, 1, 2, 3, 4, 5, 6, 7, 8, 9, 10, 11, 12, 13, 14, 15, 16, 17] rfl
    have hD : va_D A (wCv K h0 a0 o0 ++ wGr K h1 a1 o1 ++ wCu K h2 a2 o2) := hD.sub [0, 1, 2, 3, 4, 5, 6, 7, 8, 9, 10, 11, 12, 13, 14, 15, 16, 17] (by decide +kernel) rfl
    refine lv_aload_n hx hb dCv_fewest_41 rfl (lv_at hl 1 rfl) ?_
    refine va_get (D := D) (ci := 8) (v := .ref (a0 6)) (C := RCv) (T := TCv) (N := 7) hx hb hts inCv hown hK hP 0 rfl rfl 6 (by decide) (hts _ wv_380) (fun _ h9 => h9) rfl dCv_fewest_42 ?_
    refine lv_iload_n hx hb dCv_fewest_45 rfl (lv_at hl 4 rfl) ?_
    obtain ⟨hi_11, h⟩ := op_n h
    refine va_iald (D := D) hx hb hK hP 5 0 rfl rfl hi_11 dCv_fewest_46 ?_
    refine lv_topi (fun x_12 ex_12 => ?_)
    have h := op_ks ex_12 h
    refine lv_icmp_le (tgt := 53) hx hb dCv_fewest_47 (by decide) (fun c_13 => ?_) (fun c_13 => ?_)
    · have h := op_t c_13 h
      refine lv_aload_n hx hb dCv_fewest_53 rfl (lv_at hl 1 rfl) ?_
      refine lv_aload_n hx hb dCv_fewest_54 rfl (lv_at hl 2 rfl) ?_
      refine lv_lload hx hb dCv_fewest_55 (lv_at hl 0 rfl) ?_
      obtain ⟨q_14, hq_14, h⟩ := op_b h
      refine cf_calli (wc := wCv K h0 a0 o0 ++ wGr K h1 a1 o1) (wr := wCu K h2 a2 o2) (va_runV (As := [.ref h1, .long q_5]) (rest := []) ⟨hx, hb, hml, hown, hts⟩ (mCv_unwantedIn l D K _ q_5 h0 a0 h1 a1 o0 o1 _ hq_14) (cwV 2 hts (cf_GV wv_1480 wv_1482 wv_54 wv_163 wv_1483) rfl rfl rfl (by decide +kernel) ⟨Nat.le_of_ble_eq_true rfl, Nat.le_of_ble_eq_true rfl⟩) (cf_preV (wc := wCv K h0 a0 o0 ++ wGr K h1 a1 o1) hE hP hD hS hA rfl 0 rfl [0, 1, 2, 3, 4, 5, 6, 7, 8, 9, 10, 11, 12] rfl (by decide +kernel)) rfl rfl hl.1 rfl (lv_room (Nat.le_of_ble_eq_true rfl)) dCv_fewest_57 ⟨Nat.le_of_ble_eq_true rfl, Nat.le_of_ble_eq_true rfl⟩) hP hD hS hA [0, 1, 2, 3, 4, 5, 6, 7, 8, 9, 10, 11, 12] [13, 14, 15, 16, 17] rfl rfl (by decide +kernel) (by decide +kernel) (fun r_15 _ H locs hw_16 hP hD hS => ?_)
      subst r_15
      have hP : va_P D vwCl (wCv K h0 a0 o0 ++ wGr K h1 a1 o1 ++ wCu K h2 a2 o2) H := hP.sub [5, 6, 7, 8, 9, 10, 11, 12, 13, 14, 15, 16, 17, 0, 1, 2, 3, 4] rfl
      have hD : va_D A (wCv K h0 a0 o0 ++ wGr K h1 a1 o1 ++ wCu K h2 a2 o2) := hD.sub [5, 6, 7, 8, 9, 10, 11, 12, 13, 14, 15, 16, 17, 0, 1, 2, 3, 4] (by decide +kernel) rfl
      refine lv_istore (lv' := [(10, .int q_14), (8, .long q_5), (0, .ref h0), (1, .ref h1), (2, .ref h2), (3, .int v3), (4, .long v4), (6, .int v6), (7, .int v7)]) hx hb dCv_fewest_60 hl (by decide) rfl (fun ls hl => ?_)
      refine lv_iload hx hb dCv_fewest_62 (lv_at hl 0 rfl) ?_
      refine lv_iload hx hb dCv_fewest_64 (lv_at hl 7 rfl) ?_
      refine lv_icmp_lt (tgt := 84) hx hb dCv_fewest_66 (by decide) (fun c_17 => ?_) (fun c_17 => ?_)
      · have h := op_t c_17 h
        exact bCv_fewest_84 C ih _ _ _ _ _ _ _ _ h hP hD hS (lv_sub hl [2, 3, 4, 5, 8, 1, 0] rfl)
      · have h := op_f c_17 h
        refine lv_iload hx hb dCv_fewest_69 (lv_at hl 0 rfl) ?_
        refine lv_iload hx hb dCv_fewest_71 (lv_at hl 7 rfl) ?_
        refine lv_icmp_ne (tgt := 92) hx hb dCv_fewest_73 (by decide) (fun c_18 => ?_) (fun c_18 => ?_)
        · have h := op_f c_18 h
          exact bCv_fewest_92 C ih _ _ _ _ _ _ _ _ h hP hD hS (lv_sub hl [2, 3, 4, 5, 6, 7, 8] rfl)
        · have h := op_t c_18 h
          refine lv_lload hx hb dCv_fewest_76 (lv_at hl 1 rfl) ?_
          refine lv_lload hx hb dCv_fewest_78 (lv_at hl 6 rfl) ?_
          refine W.lcmp hx hb dCv_fewest_80 ?_
          refine lv_topi (fun x_19 ex_19 => ?_)
          have h := op_ks ex_19 h
          refine lv_if_ge (tgt := 92) hx hb dCv_fewest_81 (by decide) (fun c_20 => ?_) (fun c_20 => ?_)
          · have h := op_t c_20 h
            exact bCv_fewest_92 C ih _ _ _ _ _ _ _ _ h hP hD hS (lv_sub hl [2, 3, 4, 5, 6, 7, 8] rfl)
          · have h := op_f c_20 h
            exact bCv_fewest_84 C ih _ _ _ _ _ _ _ _ h hP hD hS (lv_sub hl [2, 3, 4, 5, 8, 1, 0] rfl)
    · have h := op_f c_13 h
      refine lv_goto (tgt := 92) hx hb dCv_fewest_50 (by decide) ?_
      exact bCv_fewest_92 C ih _ _ _ _ _ _ _ _ h hP hD hS (lv_sub hl [1, 2, 3, 4, 5, 6, 7] rfl)
set_option maxHeartbeats 4000000 in
set_option maxRecDepth 100000 in
theorem bCv_fewest_0 {p : Program} {l : Launch} {e : Env} {s : State} {m : MethodId} {below : List Frame} {meth : Method} {c : Code} {A : Nat → Prop} {D : va_G} {K : Nat → ClassId} {h0 : Nat} {a0 : Nat → Nat} {h1 : Nat} {a1 : Nat → Nat} {h2 : Nat} {a2 : Nat → Nat} {AR : Array Value} (C : (dc_C p s m AR meth c cCv_fewest 11 (Option.some Jvm.ClassFile.FieldType.long) yCv_fewest ∧ cf_E D K A s s.heap ∧ ∀ q, s.heap.size ≤ q → A q)) {n : Nat} (ih : IhCv_fewest p l e s m below meth c A D K h0 a0 h1 a1 h2 a2 AR n) (v3 : Int32) (o0 : cf_O) (o1 : cf_O) (o2 : cf_O) (r : Int64) (h : fCv_fewest_0 (gCv_fewest n) v3 o0 o1 o2 = some r) {H : Heap} {locs : List Loc} {ls : Array Slot} (hP : va_P D vwCl (wCv K h0 a0 o0 ++ wGr K h1 a1 o1 ++ wCu K h2 a2 o2) H) (hD : va_D A (wCv K h0 a0 o0 ++ wGr K h1 a1 o1 ++ wCu K h2 a2 o2)) (hS : va_S A s.heap H locs) (hl : lv_has ls 11 [(0, .ref h0), (1, .ref h1), (2, .ref h2), (3, .int v3)]) : W p l e ({ frames := 3, cells := 0, slots := 0, locals := 68 }) s m AR below meth c H locs 0 0 (MQ below (va_Ql (fun (x : Int64) (_ : Unit) => x = r) (fun (_ : Unit) t => cf_At D A (wCv K h0 a0 o0 ++ wGr K h1 a1 o1 ++ wCu K h2 a2 o2) t) A) AR s 0 0 A) (F0 m 0 ls []) := by
  obtain ⟨⟨hx, hb, hr, hts, hown, hlocks, hin, hml⟩, hE, hA⟩ := id C
  have hK := hE.k
  refine lv_ldc2 (v := 9223372036854775807) hx hb hown (hts _ wv_1472) dCv_fewest_0 ?_
  refine lv_lstore (lv' := [(4, .long 9223372036854775807), (0, .ref h0), (1, .ref h1), (2, .ref h2), (3, .int v3)]) hx hb dCv_fewest_3 hl (by decide) rfl (fun ls hl => ?_)
  refine lv_sipush (v := 209) hx hb dCv_fewest_5 (by decide) ?_
  refine lv_istore (lv' := [(6, .int 209), (4, .long 9223372036854775807), (0, .ref h0), (1, .ref h1), (2, .ref h2), (3, .int v3)]) hx hb dCv_fewest_8 hl (by decide) rfl (fun ls hl => ?_)
  refine lv_aload_n hx hb dCv_fewest_10 rfl (lv_at hl 4 rfl) ?_
  refine lv_iload_n hx hb dCv_fewest_11 rfl (lv_at hl 5 rfl) ?_
  obtain ⟨q_1, hq_1, h⟩ := op_b h
  refine cf_calli (wc := wCu K h2 a2 o2) (wr := wCv K h0 a0 o0 ++ wGr K h1 a1 o1) (va_runV (As := [.int v3]) (rest := []) ⟨hx, hb, hml, hown, hts⟩ (mCu_firstOf l D K _ v3 h2 a2 o2 _ hq_1) (cwV 1 hts (cf_GV wv_1473 wv_1342 wv_1343 wv_160 wv_1344) rfl rfl rfl (by decide +kernel) ⟨Nat.le_of_ble_eq_true rfl, Nat.le_of_ble_eq_true rfl⟩) (cf_preV (wc := wCu K h2 a2 o2) hE hP hD hS hA rfl 13 rfl [13, 14, 15, 16, 17] rfl (by decide +kernel)) rfl rfl hl.1 rfl (lv_room (Nat.le_of_ble_eq_true rfl)) dCv_fewest_12 ⟨Nat.le_of_ble_eq_true rfl, Nat.le_of_ble_eq_true rfl⟩) hP hD hS hA [13, 14, 15, 16, 17] [0, 1, 2, 3, 4, 5, 6, 7, 8, 9, 10, 11, 12] rfl rfl (by decide +kernel) (by decide +kernel) (fun r_2 _ H locs hw_3 hP hD hS => ?_)
  subst r_2
  have hP : va_P D vwCl (wCv K h0 a0 o0 ++ wGr K h1 a1 o1 ++ wCu K h2 a2 o2) H := hP.sub [0, 1, 2, 3, 4, 5, 6, 7, 8, 9, 10, 11, 12, 13, 14, 15, 16, 17] rfl
  have hD : va_D A (wCv K h0 a0 o0 ++ wGr K h1 a1 o1 ++ wCu K h2 a2 o2) := hD.sub [0, 1, 2, 3, 4, 5, 6, 7, 8, 9, 10, 11, 12, 13, 14, 15, 16, 17] (by decide +kernel) rfl
  refine lv_istore (lv' := [(7, .int q_1), (6, .int 209), (4, .long 9223372036854775807), (0, .ref h0), (1, .ref h1), (2, .ref h2), (3, .int v3)]) hx hb dCv_fewest_15 hl (by decide) rfl (fun ls hl => ?_)
  exact (ih) _ _ _ _ _ _ _ _ h hP hD hS (lv_sub hl [3, 4, 5, 6, 2, 1, 0] rfl)
theorem iCv_fewest {p : Program} {l : Launch} {e : Env} {s : State} {m : MethodId} {below : List Frame} {meth : Method} {c : Code} {A : Nat → Prop} {D : va_G} {K : Nat → ClassId} {h0 : Nat} {a0 : Nat → Nat} {h1 : Nat} {a1 : Nat → Nat} {h2 : Nat} {a2 : Nat → Nat} {AR : Array Value} (C : (dc_C p s m AR meth c cCv_fewest 11 (Option.some Jvm.ClassFile.FieldType.long) yCv_fewest ∧ cf_E D K A s s.heap ∧ ∀ q, s.heap.size ≤ q → A q)) : ∀ n, IhCv_fewest p l e s m below meth c A D K h0 a0 h1 a1 h2 a2 AR n := by
  intro n
  induction n with
  | zero => exact (fun _ _ _ _ _ _ _ r h => by cases (show none = some r from h))
  | succ n ih => exact fun x0 x1 x2 x3 x4 x5 x6 r h _ _ _ hP hD hS hl => bCv_fewest_17 C ih x0 x1 x2 x3 x4 x5 x6 r h hP hD hS hl
set_option maxRecDepth 100000 in
theorem mCv_fewest (l : Launch) (D : va_G) (K : Nat → ClassId) (sz : Nat) (v3 : Int32) (h0 : Nat) (a0 : Nat → Nat) (h1 : Nat) (a1 : Nat → Nat) (h2 : Nat) (a2 : Nat → Nat) (o0 : cf_O) (o1 : cf_O) (o2 : cf_O) (r : Int64) (h : fCv_fewest v3 o0 o1 o2 = some r) : Met l yCv_fewest (Cond.code yCv_fewest cCv_fewest 11 (Option.some Jvm.ClassFile.FieldType.long) :: cfB) ({ frames := 3, cells := 0, slots := 0, locals := 68 }) (va_Pc [.ref h0, .ref h1, .ref h2, .int v3] (cf_Pre D K sz (wCv K h0 a0 o0 ++ wGr K h1 a1 o1 ++ wCu K h2 a2 o2))) (va_Ql (fun (x : Int64) (_ : Unit) => x = r) (fun (_ : Unit) t => cf_At D (va_A (wCv K h0 a0 o0 ++ wGr K h1 a1 o1 ++ wCu K h2 a2 o2) sz) (wCv K h0 a0 o0 ++ wGr K h1 a1 o1 ++ wCu K h2 a2 o2) t) (va_A (wCv K h0 a0 o0 ++ wGr K h1 a1 o1 ++ wCu K h2 a2 o2) sz)) 0 0 (va_A (wCv K h0 a0 o0 ++ wGr K h1 a1 o1 ++ wCu K h2 a2 o2) sz) := by
  refine cf_ofW (y := yCv_fewest) (As := [.ref h0, .ref h1, .ref h2, .int v3]) (WS := wCv K h0 a0 o0 ++ wGr K h1 a1 o1 ++ wCu K h2 a2 o2) (maxL := 11) (fun A => (va_Ql (fun (x : Int64) (_ : Unit) => x = r) (fun (_ : Unit) t => cf_At D A (wCv K h0 a0 o0 ++ wGr K h1 a1 o1 ++ wCu K h2 a2 o2) t) A)) (by decide) (Nat.le_of_ble_eq_true rfl) ?_
  intro p e s m below meth c A ls En hsz hA hP hD hE hS hl
  have C : (dc_C p s m (([.ref h0, .ref h1, .ref h2, .int v3] : List Value).toArray) meth c cCv_fewest 11 (Option.some Jvm.ClassFile.FieldType.long) yCv_fewest ∧ cf_E D K A s s.heap ∧ ∀ q, s.heap.size ≤ q → A q) := ⟨En, hE, hA⟩
  exact bCv_fewest_0 C (iCv_fewest C cfFU) v3 o0 o1 o2 r h hP hD hS hl
def IhCu_bestOf (p : Program) (l : Launch) (e : Env) (s : State) (m : MethodId) (below : List Frame) (meth : Method) (c : Code) (A : Nat → Prop) (D : va_G) (K : Nat → ClassId) (h0 : Nat) (a0 : Nat → Nat) (AR : Array Value) (n : Nat) : Prop := (∀ (v1 : Int32) (v2 : Int64) (v4 : Int32) (o0 : cf_O) (r : Int64), gCu_bestOf n 0 v1 v2 v4 o0 = some r → ∀ {H : Heap} {locs : List Loc} {ls : Array Slot}, (va_P D vwCl (wCu K h0 a0 o0) H) → (va_D A (wCu K h0 a0 o0)) → va_S A s.heap H locs → lv_has ls 5 [(0, .ref h0), (1, .int v1), (2, .long v2), (4, .int v4)] → W p l e ({ frames := 2, cells := 0, slots := 0, locals := 59 }) s m AR below meth c H locs 0 0 (MQ below (va_Ql (fun (x : Int64) (_ : Unit) => x = r) (fun (_ : Unit) t => cf_At D A (wCu K h0 a0 o0) t) A) AR s 0 0 A) (F0 m 11 ls []))
set_option maxHeartbeats 4000000 in
set_option maxRecDepth 100000 in
theorem bCu_bestOf_61 {p : Program} {l : Launch} {e : Env} {s : State} {m : MethodId} {below : List Frame} {meth : Method} {c : Code} {A : Nat → Prop} {D : va_G} {K : Nat → ClassId} {h0 : Nat} {a0 : Nat → Nat} {AR : Array Value} (C : (dc_C p s m AR meth c cCu_bestOf 5 (Option.some Jvm.ClassFile.FieldType.long) yCu_bestOf ∧ cf_E D K A s s.heap ∧ ∀ q, s.heap.size ≤ q → A q)) {n : Nat} (ih : IhCu_bestOf p l e s m below meth c A D K h0 a0 AR n) (v1 : Int32) (v2 : Int64) (v4 : Int32) (o0 : cf_O) (r : Int64) (h : fCu_bestOf_61 (gCu_bestOf n) v1 v2 v4 o0 = some r) {H : Heap} {locs : List Loc} {ls : Array Slot} (hP : va_P D vwCl (wCu K h0 a0 o0) H) (hD : va_D A (wCu K h0 a0 o0)) (hS : va_S A s.heap H locs) (hl : lv_has ls 5 [(0, .ref h0), (1, .int v1), (2, .long v2), (4, .int v4)]) : W p l e ({ frames := 2, cells := 0, slots := 0, locals := 59 }) s m AR below meth c H locs 0 0 (MQ below (va_Ql (fun (x : Int64) (_ : Unit) => x = r) (fun (_ : Unit) t => cf_At D A (wCu K h0 a0 o0) t) A) AR s 0 0 A) (F0 m 61 ls []) := by
  obtain ⟨⟨hx, hb, hr, hts, hown, hlocks, hin, hml⟩, hE, hA⟩ := id C
  have hK := hE.k
  obtain ⟨x_1, ex_1⟩ : ∃ y : Int32, y = v4 + 1 := ⟨_, rfl⟩
  refine lv_iinc (v := x_1) (lv' := [(4, .int x_1), (0, .ref h0), (1, .int v1), (2, .long v2)]) hx hb dCu_bestOf_61 hl (k := 3) rfl (by rw [ex_1]; rfl) (by decide) rfl (fun ls hl => ?_)
  have h := op_ks ex_1 h
  refine lv_goto (tgt := 11) hx hb dCu_bestOf_64 (by decide) ?_
  exact (ih) _ _ _ _ _ h hP hD hS (lv_sub hl [1, 2, 3, 0] rfl)
set_option maxHeartbeats 4000000 in
set_option maxRecDepth 100000 in
theorem bCu_bestOf_11 {p : Program} {l : Launch} {e : Env} {s : State} {m : MethodId} {below : List Frame} {meth : Method} {c : Code} {A : Nat → Prop} {D : va_G} {K : Nat → ClassId} {h0 : Nat} {a0 : Nat → Nat} {AR : Array Value} (C : (dc_C p s m AR meth c cCu_bestOf 5 (Option.some Jvm.ClassFile.FieldType.long) yCu_bestOf ∧ cf_E D K A s s.heap ∧ ∀ q, s.heap.size ≤ q → A q)) {n : Nat} (ih : IhCu_bestOf p l e s m below meth c A D K h0 a0 AR n) (v1 : Int32) (v2 : Int64) (v4 : Int32) (o0 : cf_O) (r : Int64) (h : fCu_bestOf_11 (gCu_bestOf n) v1 v2 v4 o0 = some r) {H : Heap} {locs : List Loc} {ls : Array Slot} (hP : va_P D vwCl (wCu K h0 a0 o0) H) (hD : va_D A (wCu K h0 a0 o0)) (hS : va_S A s.heap H locs) (hl : lv_has ls 5 [(0, .ref h0), (1, .int v1), (2, .long v2), (4, .int v4)]) : W p l e ({ frames := 2, cells := 0, slots := 0, locals := 59 }) s m AR below meth c H locs 0 0 (MQ below (va_Ql (fun (x : Int64) (_ : Unit) => x = r) (fun (_ : Unit) t => cf_At D A (wCu K h0 a0 o0) t) A) AR s 0 0 A) (F0 m 11 ls []) := by
  obtain ⟨⟨hx, hb, hr, hts, hown, hlocks, hin, hml⟩, hE, hA⟩ := id C
  have hK := hE.k
  refine lv_iload hx hb dCu_bestOf_11 (lv_at hl 3 rfl) ?_
  refine lv_aload_n hx hb dCu_bestOf_13 rfl (lv_at hl 0 rfl) ?_
  refine lv_iload_n hx hb dCu_bestOf_14 rfl (lv_at hl 1 rfl) ?_
  obtain ⟨q_1, hq_1, h⟩ := op_b h
  refine dc_calli (va_runV (As := [.int v1]) (rest := [.int v4]) ⟨hx, hb, hml, hown, hts⟩ (mCu_behindLastOf l D K _ v1 h0 a0 o0 _ hq_1) (cwV 1 hts (cf_GV wv_1345 wv_1346 wv_1347 wv_160 wv_1348) rfl rfl rfl (by decide +kernel) ⟨Nat.le_of_ble_eq_true rfl, Nat.le_of_ble_eq_true rfl⟩) (dc_preV hE hP hD hS hA rfl 0 rfl) rfl rfl hl.1 rfl (lv_room (Nat.le_of_ble_eq_true rfl)) dCu_bestOf_15 ⟨Nat.le_of_ble_eq_true rfl, Nat.le_of_ble_eq_true rfl⟩) hP hD hS hA (fun r_2 H locs hw_3 hP hD hS => ?_)
  subst r_2
  refine lv_icmp_ge (tgt := 67) hx hb dCu_bestOf_18 (by decide) (fun c_4 => ?_) (fun c_4 => ?_)
  · have h := op_t c_4 h
    refine lv_lload_n hx hb dCu_bestOf_67 rfl (lv_at hl 2 rfl) ?_
    obtain rfl := Option.some.inj h
    exact dc_lret hx hb hr hlocks rfl hP hD hS dCu_bestOf_68
  · have h := op_f c_4 h
    refine lv_aload_n hx hb dCu_bestOf_21 rfl (lv_at hl 0 rfl) ?_
    refine va_get (D := D) (ci := 5) (v := .ref (a0 4)) (C := RCu) (T := TCu) (N := 6) hx hb hts inCu hown hK hP 0 rfl rfl 4 (by decide) (hts _ wv_270) (fun _ h9 => h9) rfl dCu_bestOf_22 ?_
    refine lv_iload hx hb dCu_bestOf_25 (lv_at hl 3 rfl) ?_
    obtain ⟨hi_5, h⟩ := op_n h
    refine va_lald (D := D) hx hb hK hP 3 1 rfl rfl hi_5 dCu_bestOf_27 ?_
    refine lv_topl (fun x_6 ex_6 => ?_)
    have h := op_ks ex_6 h
    refine lv_lload_n hx hb dCu_bestOf_28 rfl (lv_at hl 2 rfl) ?_
    refine W.lcmp hx hb dCu_bestOf_29 ?_
    refine lv_topi (fun x_7 ex_7 => ?_)
    have h := op_ks ex_7 h
    refine lv_if_ge (tgt := 61) hx hb dCu_bestOf_30 (by decide) (fun c_8 => ?_) (fun c_8 => ?_)
    · have h := op_t c_8 h
      exact bCu_bestOf_61 C ih _ _ _ _ _ h hP hD hS (lv_sub hl [0, 1, 2, 3] rfl)
    · have h := op_f c_8 h
      refine lv_aload_n hx hb dCu_bestOf_33 rfl (lv_at hl 0 rfl) ?_
      refine lv_aload_n hx hb dCu_bestOf_34 rfl (lv_at hl 0 rfl) ?_
      refine va_get (D := D) (ci := 5) (v := .ref (a0 4)) (C := RCu) (T := TCu) (N := 6) hx hb hts inCu hown hK hP 0 rfl rfl 4 (by decide) (hts _ wv_270) (fun _ h9 => h9) rfl dCu_bestOf_35 ?_
      refine lv_iload hx hb dCu_bestOf_38 (lv_at hl 3 rfl) ?_
      obtain ⟨hi_9, h⟩ := op_n h
      refine va_lald (D := D) hx hb hK hP 3 1 rfl rfl hi_9 dCu_bestOf_40 ?_
      refine lv_topl (fun x_10 ex_10 => ?_)
      have h := op_ks ex_10 h
      obtain ⟨q_11, hq_11, h⟩ := op_b h
      refine dc_calli (va_runV (As := [.long x_10]) (rest := []) ⟨hx, hb, hml, hown, hts⟩ (mCu_depthOf l D K _ x_10 h0 a0 o0 _ hq_11) (cwV 1 hts (cf_GV wv_1326 wv_1327 wv_1328 wv_160 wv_1329) rfl rfl rfl (by decide +kernel) ⟨Nat.le_of_ble_eq_true rfl, Nat.le_of_ble_eq_true rfl⟩) (dc_preV hE hP hD hS hA rfl 0 rfl) rfl rfl hl.1 rfl (lv_room (Nat.le_of_ble_eq_true rfl)) dCu_bestOf_41 ⟨Nat.le_of_ble_eq_true rfl, Nat.le_of_ble_eq_true rfl⟩) hP hD hS hA (fun r_12 H locs hw_13 hP hD hS => ?_)
      subst r_12
      refine lv_aload_n hx hb dCu_bestOf_44 rfl (lv_at hl 0 rfl) ?_
      refine va_get (D := D) (ci := 5) (v := .ref (a0 1)) (C := RCu) (T := TCu) (N := 6) hx hb hts inCu hown hK hP 0 rfl rfl 1 (by decide) (hts _ wv_266) (fun _ h9 => h9) rfl dCu_bestOf_45 ?_
      refine lv_iload_n hx hb dCu_bestOf_48 rfl (lv_at hl 1 rfl) ?_
      obtain ⟨hi_14, h⟩ := op_n h
      refine va_iald (D := D) hx hb hK hP 1 0 rfl rfl hi_14 dCu_bestOf_49 ?_
      refine lv_topi (fun x_15 ex_15 => ?_)
      have h := op_ks ex_15 h
      refine lv_icmp_ne (tgt := 61) hx hb dCu_bestOf_50 (by decide) (fun c_16 => ?_) (fun c_16 => ?_)
      · have h := op_f c_16 h
        exact bCu_bestOf_61 C ih _ _ _ _ _ h hP hD hS (lv_sub hl [0, 1, 2, 3] rfl)
      · have h := op_t c_16 h
        refine lv_aload_n hx hb dCu_bestOf_53 rfl (lv_at hl 0 rfl) ?_
        refine va_get (D := D) (ci := 5) (v := .ref (a0 4)) (C := RCu) (T := TCu) (N := 6) hx hb hts inCu hown hK hP 0 rfl rfl 4 (by decide) (hts _ wv_270) (fun _ h9 => h9) rfl dCu_bestOf_54 ?_
        refine lv_iload hx hb dCu_bestOf_57 (lv_at hl 3 rfl) ?_
        obtain ⟨hi_17, h⟩ := op_n h
        refine va_lald (D := D) hx hb hK hP 3 1 rfl rfl hi_17 dCu_bestOf_59 ?_
        refine lv_topl (fun x_18 ex_18 => ?_)
        have h := op_ks ex_18 h
        refine lv_lstore_n (lv' := [(2, .long x_18), (0, .ref h0), (1, .int v1), (4, .int v4)]) hx hb dCu_bestOf_60 rfl hl (by decide) rfl (fun ls hl => ?_)
        exact bCu_bestOf_61 C ih _ _ _ _ _ h hP hD hS (lv_sub hl [1, 2, 0, 3] rfl)
set_option maxHeartbeats 4000000 in
set_option maxRecDepth 100000 in
theorem bCu_bestOf_0 {p : Program} {l : Launch} {e : Env} {s : State} {m : MethodId} {below : List Frame} {meth : Method} {c : Code} {A : Nat → Prop} {D : va_G} {K : Nat → ClassId} {h0 : Nat} {a0 : Nat → Nat} {AR : Array Value} (C : (dc_C p s m AR meth c cCu_bestOf 5 (Option.some Jvm.ClassFile.FieldType.long) yCu_bestOf ∧ cf_E D K A s s.heap ∧ ∀ q, s.heap.size ≤ q → A q)) {n : Nat} (ih : IhCu_bestOf p l e s m below meth c A D K h0 a0 AR n) (v1 : Int32) (o0 : cf_O) (r : Int64) (h : fCu_bestOf_0 (gCu_bestOf n) v1 o0 = some r) {H : Heap} {locs : List Loc} {ls : Array Slot} (hP : va_P D vwCl (wCu K h0 a0 o0) H) (hD : va_D A (wCu K h0 a0 o0)) (hS : va_S A s.heap H locs) (hl : lv_has ls 5 [(0, .ref h0), (1, .int v1)]) : W p l e ({ frames := 2, cells := 0, slots := 0, locals := 59 }) s m AR below meth c H locs 0 0 (MQ below (va_Ql (fun (x : Int64) (_ : Unit) => x = r) (fun (_ : Unit) t => cf_At D A (wCu K h0 a0 o0) t) A) AR s 0 0 A) (F0 m 0 ls []) := by
  obtain ⟨⟨hx, hb, hr, hts, hown, hlocks, hin, hml⟩, hE, hA⟩ := id C
  have hK := hE.k
  refine lv_ldc2 (v := 9223372036854775807) hx hb hown (hts _ wv_1340) dCu_bestOf_0 ?_
  refine lv_lstore_n (lv' := [(2, .long 9223372036854775807), (0, .ref h0), (1, .int v1)]) hx hb dCu_bestOf_3 rfl hl (by decide) rfl (fun ls hl => ?_)
  refine lv_aload_n hx hb dCu_bestOf_4 rfl (lv_at hl 1 rfl) ?_
  refine lv_iload_n hx hb dCu_bestOf_5 rfl (lv_at hl 2 rfl) ?_
  obtain ⟨q_1, hq_1, h⟩ := op_b h
  refine dc_calli (va_runV (As := [.int v1]) (rest := []) ⟨hx, hb, hml, hown, hts⟩ (mCu_firstOf l D K _ v1 h0 a0 o0 _ hq_1) (cwV 1 hts (cf_GV wv_1341 wv_1342 wv_1343 wv_160 wv_1344) rfl rfl rfl (by decide +kernel) ⟨Nat.le_of_ble_eq_true rfl, Nat.le_of_ble_eq_true rfl⟩) (dc_preV hE hP hD hS hA rfl 0 rfl) rfl rfl hl.1 rfl (lv_room (Nat.le_of_ble_eq_true rfl)) dCu_bestOf_6 ⟨Nat.le_of_ble_eq_true rfl, Nat.le_of_ble_eq_true rfl⟩) hP hD hS hA (fun r_2 H locs hw_3 hP hD hS => ?_)
  subst r_2
  refine lv_istore (lv' := [(4, .int q_1), (2, .long 9223372036854775807), (0, .ref h0), (1, .int v1)]) hx hb dCu_bestOf_9 hl (by decide) rfl (fun ls hl => ?_)
  exact (ih) _ _ _ _ _ h hP hD hS (lv_sub hl [2, 3, 1, 0] rfl)
theorem iCu_bestOf {p : Program} {l : Launch} {e : Env} {s : State} {m : MethodId} {below : List Frame} {meth : Method} {c : Code} {A : Nat → Prop} {D : va_G} {K : Nat → ClassId} {h0 : Nat} {a0 : Nat → Nat} {AR : Array Value} (C : (dc_C p s m AR meth c cCu_bestOf 5 (Option.some Jvm.ClassFile.FieldType.long) yCu_bestOf ∧ cf_E D K A s s.heap ∧ ∀ q, s.heap.size ≤ q → A q)) : ∀ n, IhCu_bestOf p l e s m below meth c A D K h0 a0 AR n := by
  intro n
  induction n with
  | zero => exact (fun _ _ _ _ r h => by cases (show none = some r from h))
  | succ n ih => exact fun x0 x1 x2 x3 r h _ _ _ hP hD hS hl => bCu_bestOf_11 C ih x0 x1 x2 x3 r h hP hD hS hl
set_option maxRecDepth 100000 in
theorem mCu_bestOf (l : Launch) (D : va_G) (K : Nat → ClassId) (sz : Nat) (v1 : Int32) (h0 : Nat) (a0 : Nat → Nat) (o0 : cf_O) (r : Int64) (h : fCu_bestOf v1 o0 = some r) : Met l yCu_bestOf (Cond.code yCu_bestOf cCu_bestOf 5 (Option.some Jvm.ClassFile.FieldType.long) :: cfB) ({ frames := 2, cells := 0, slots := 0, locals := 59 }) (va_Pc [.ref h0, .int v1] (cf_Pre D K sz (wCu K h0 a0 o0))) (va_Ql (fun (x : Int64) (_ : Unit) => x = r) (fun (_ : Unit) t => cf_At D (va_A (wCu K h0 a0 o0) sz) (wCu K h0 a0 o0) t) (va_A (wCu K h0 a0 o0) sz)) 0 0 (va_A (wCu K h0 a0 o0) sz) := by
  refine cf_ofW (y := yCu_bestOf) (As := [.ref h0, .int v1]) (WS := wCu K h0 a0 o0) (maxL := 5) (fun A => (va_Ql (fun (x : Int64) (_ : Unit) => x = r) (fun (_ : Unit) t => cf_At D A (wCu K h0 a0 o0) t) A)) (by decide) (Nat.le_of_ble_eq_true rfl) ?_
  intro p e s m below meth c A ls En hsz hA hP hD hE hS hl
  have C : (dc_C p s m (([.ref h0, .int v1] : List Value).toArray) meth c cCu_bestOf 5 (Option.some Jvm.ClassFile.FieldType.long) yCu_bestOf ∧ cf_E D K A s s.heap ∧ ∀ q, s.heap.size ≤ q → A q) := ⟨En, hE, hA⟩
  exact bCu_bestOf_0 C (iCu_bestOf C cfFU) v1 o0 r h hP hD hS hl
set_option maxHeartbeats 4000000 in
set_option maxRecDepth 100000 in
theorem bCu_nodeAt_0 {p : Program} {l : Launch} {e : Env} {s : State} {m : MethodId} {below : List Frame} {meth : Method} {c : Code} {AR : Array Value} (C : dc_C p s m AR meth c cCu_nodeAt 3 (Option.some Jvm.ClassFile.FieldType.int) yCu_nodeAt) (v0 : Int64) (v2 : Int32) (r : Int32) (h : fCu_nodeAt_0 v0 v2 = some r) {ls : Array Slot} (hl : lv_has ls 3 [(0, .long v0), (2, .int v2)]) : W p l e ({ frames := 3, cells := 0, slots := 0, locals := 64 }) s m AR below meth c s.heap [] 0 0 (MQ below (cf_Pi (fun x => x = r)) AR s 0 0 (fun _ => False)) (F0 m 0 ls []) := by
  obtain ⟨hx, hb, hr, hts, hown, hlocks, hin, hml⟩ := id C
  refine lv_lload_n hx hb dCu_nodeAt_0 rfl (lv_at hl 0 rfl) ?_
  refine lv_bipush (v := 8) hx hb dCu_nodeAt_1 (by decide) ?_
  refine lv_lload_n hx hb dCu_nodeAt_3 rfl (lv_at hl 0 rfl) ?_
  obtain ⟨q_1, hq_1, h⟩ := op_b h
  refine cf_pcalli (va_runS (As := [.long v0]) (rest := [.int 8, .long v0]) ⟨hx, hb, hml, hown, hts⟩ (mCu_sizeOf l v0 _ hq_1) (va_cwS 1 hts (cf_GS wv_1494 wv_1359 wv_160 wv_1360) rfl rfl rfl (by decide +kernel) ⟨Nat.le_of_ble_eq_true rfl, Nat.le_of_ble_eq_true rfl⟩) preEq rfl rfl hl.1 rfl (lv_room (Nat.le_of_ble_eq_true rfl)) dCu_nodeAt_4 ⟨Nat.le_of_ble_eq_true rfl, Nat.le_of_ble_eq_true rfl⟩) (fun r_2 hw_3 => ?_)
  subst r_2
  refine lv_iconst (v := 1) hx hb dCu_nodeAt_7 (by decide) ?_
  refine lv_isub hx hb dCu_nodeAt_8 ?_
  refine lv_topi (fun x_4 ex_4 => ?_)
  have h := op_ks ex_4 h
  refine lv_iload_n hx hb dCu_nodeAt_9 rfl (lv_at hl 1 rfl) ?_
  refine lv_isub hx hb dCu_nodeAt_10 ?_
  refine lv_topi (fun x_5 ex_5 => ?_)
  have h := op_ks ex_5 h
  refine lv_imul hx hb dCu_nodeAt_11 ?_
  refine lv_topi (fun x_6 ex_6 => ?_)
  have h := op_ks ex_6 h
  refine lv_lushr hx hb dCu_nodeAt_12 rfl ?_
  refine lv_topl (fun x_7 ex_7 => ?_)
  have h := op_ks ex_7 h
  refine lv_ldc2 (v := 255) hx hb hown (hts _ wv_1314) dCu_nodeAt_13 ?_
  refine lv_land hx hb dCu_nodeAt_16 ?_
  refine lv_topl (fun x_8 ex_8 => ?_)
  have h := op_ks ex_8 h
  refine lv_l2i hx hb dCu_nodeAt_17 rfl ?_
  refine lv_topi (fun x_9 ex_9 => ?_)
  have h := op_ks ex_9 h
  obtain rfl := Option.some.inj h
  exact W.iret hx hb hr (fun t ht hW => ⟨_, rfl, rfl, ht⟩) cf_pnil dCu_nodeAt_18 hlocks
theorem mCu_nodeAt (l : Launch) (v0 : Int64) (v2 : Int32) (r : Int32) (h : fCu_nodeAt v0 v2 = some r) : Met l yCu_nodeAt (Cond.code yCu_nodeAt cCu_nodeAt 3 (Option.some Jvm.ClassFile.FieldType.int) :: cfB) ({ frames := 3, cells := 0, slots := 0, locals := 64 }) (fun v _ => v = ([.long v0, .int v2] : List Value).toArray) (cf_Pi (fun x => x = r)) 0 0 (fun _ => False) := by
  refine cf_ofP (y := yCu_nodeAt) (As := [.long v0, .int v2]) (maxL := 3) (cf_Pi (fun x => x = r)) (by decide) (Nat.le_of_ble_eq_true rfl) ?_
  intro p e s m below meth c ls C hl
  exact bCu_nodeAt_0 (l := l) C v0 v2 r h hl
def IhCv_wantNodes (p : Program) (l : Launch) (e : Env) (s : State) (m : MethodId) (below : List Frame) (meth : Method) (c : Code) (A : Nat → Prop) (D : va_G) (K : Nat → ClassId) (h0 : Nat) (a0 : Nat → Nat) (h1 : Nat) (a1 : Nat → Nat) (AR : Array Value) (n : Nat) : Prop := (∀ (v2 : Int64) (v4 : Int32) (v5 : Int32) (o0 : cf_O) (o1 : cf_O) (r : cf_O), gCv_wantNodes n 0 v2 v4 v5 o0 o1 = some r → ∀ {H : Heap} {locs : List Loc} {ls : Array Slot}, (va_P D vwCl (wCv K h0 a0 o0 ++ wGr K h1 a1 o1) H) → (va_D A (wCv K h0 a0 o0 ++ wGr K h1 a1 o1)) → va_S A s.heap H locs → lv_has ls 7 [(0, .ref h0), (1, .ref h1), (2, .long v2), (4, .int v4), (5, .int v5)] → W p l e ({ frames := 4, cells := 0, slots := 0, locals := 86 }) s m AR below meth c H locs 0 0 (MQ below (va_Qv (fun (_ : Unit) => True) (fun (_ : Unit) t => cf_At D A (wCv K h0 a0 r ++ wGr K h1 a1 o1) t) A) AR s 0 0 A) (F0 m 3 ls []))
set_option maxHeartbeats 4000000 in
set_option maxRecDepth 100000 in
theorem bCv_wantNodes_64 {p : Program} {l : Launch} {e : Env} {s : State} {m : MethodId} {below : List Frame} {meth : Method} {c : Code} {A : Nat → Prop} {D : va_G} {K : Nat → ClassId} {h0 : Nat} {a0 : Nat → Nat} {h1 : Nat} {a1 : Nat → Nat} {AR : Array Value} (C : (dc_C p s m AR meth c cCv_wantNodes 7 (Option.none : Option Jvm.ClassFile.FieldType) yCv_wantNodes ∧ cf_E D K A s s.heap ∧ ∀ q, s.heap.size ≤ q → A q)) {n : Nat} (ih : IhCv_wantNodes p l e s m below meth c A D K h0 a0 h1 a1 AR n) (v2 : Int64) (v4 : Int32) (v5 : Int32) (o0 : cf_O) (o1 : cf_O) (r : cf_O) (h : fCv_wantNodes_64 (gCv_wantNodes n) v2 v4 v5 o0 o1 = some r) {H : Heap} {locs : List Loc} {ls : Array Slot} (hP : va_P D vwCl (wCv K h0 a0 o0 ++ wGr K h1 a1 o1) H) (hD : va_D A (wCv K h0 a0 o0 ++ wGr K h1 a1 o1)) (hS : va_S A s.heap H locs) (hl : lv_has ls 7 [(0, .ref h0), (1, .ref h1), (2, .long v2), (4, .int v4), (5, .int v5)]) : W p l e ({ frames := 4, cells := 0, slots := 0, locals := 86 }) s m AR below meth c H locs 0 0 (MQ below (va_Qv (fun (_ : Unit) => True) (fun (_ : Unit) t => cf_At D A (wCv K h0 a0 r ++ wGr K h1 a1 o1) t) A) AR s 0 0 A) (F0 m 64 ls []) := by
  obtain ⟨⟨hx, hb, hr, hts, hown, hlocks, hin, hml⟩, hE, hA⟩ := id C
  have hK := hE.k
  obtain ⟨x_1, ex_1⟩ : ∃ y : Int32, y = v5 + 1 := ⟨_, rfl⟩
  refine lv_iinc (v := x_1) (lv' := [(5, .int x_1), (0, .ref h0), (1, .ref h1), (2, .long v2), (4, .int v4)]) hx hb dCv_wantNodes_64 hl (k := 4) rfl (by rw [ex_1]; rfl) (by decide) rfl (fun ls hl => ?_)
  have h := op_ks ex_1 h
  refine lv_goto (tgt := 3) hx hb dCv_wantNodes_67 (by decide) ?_
  exact (ih) _ _ _ _ _ _ h hP hD hS (lv_sub hl [1, 2, 3, 4, 0] rfl)
set_option maxHeartbeats 4000000 in
set_option maxRecDepth 100000 in
theorem bCv_wantNodes_63 {p : Program} {l : Launch} {e : Env} {s : State} {m : MethodId} {below : List Frame} {meth : Method} {c : Code} {A : Nat → Prop} {D : va_G} {K : Nat → ClassId} {h0 : Nat} {a0 : Nat → Nat} {h1 : Nat} {a1 : Nat → Nat} {AR : Array Value} (C : (dc_C p s m AR meth c cCv_wantNodes 7 (Option.none : Option Jvm.ClassFile.FieldType) yCv_wantNodes ∧ cf_E D K A s s.heap ∧ ∀ q, s.heap.size ≤ q → A q)) {n : Nat} (ih : IhCv_wantNodes p l e s m below meth c A D K h0 a0 h1 a1 AR n) (v2 : Int64) (v4 : Int32) (v5 : Int32) (s1 : Int32) (s2 : Int32) (o0 : cf_O) (o1 : cf_O) (r : cf_O) (h : fCv_wantNodes_63 (gCv_wantNodes n) v2 v4 v5 s1 s2 o0 o1 = some r) {H : Heap} {locs : List Loc} {ls : Array Slot} (hP : va_P D vwCl (wCv K h0 a0 o0 ++ wGr K h1 a1 o1) H) (hD : va_D A (wCv K h0 a0 o0 ++ wGr K h1 a1 o1)) (hS : va_S A s.heap H locs) (hl : lv_has ls 7 [(0, .ref h0), (1, .ref h1), (2, .long v2), (4, .int v4), (5, .int v5)]) : W p l e ({ frames := 4, cells := 0, slots := 0, locals := 86 }) s m AR below meth c H locs 0 0 (MQ below (va_Qv (fun (_ : Unit) => True) (fun (_ : Unit) t => cf_At D A (wCv K h0 a0 r ++ wGr K h1 a1 o1) t) A) AR s 0 0 A) (F0 m 63 ls [.int s2, .int s1, .ref (a0 6)]) := by
  obtain ⟨⟨hx, hb, hr, hts, hown, hlocks, hin, hml⟩, hE, hA⟩ := id C
  have hK := hE.k
  obtain ⟨hi_1, h⟩ := op_n h
  refine va_iast (D := D) hx hb hK hP hD hS 5 0 rfl rfl hi_1 dCv_wantNodes_63 (fun H locs hP hD hS => ?_)
  have hP : va_P D vwCl (wCv K h0 a0 (xp o0 6 s1.toNatClampNeg s2) ++ wGr K h1 a1 o1) H := hP
  have hD : va_D A (wCv K h0 a0 (xp o0 6 s1.toNatClampNeg s2) ++ wGr K h1 a1 o1) := hD
  obtain ⟨o_2, eo_2, h⟩ := op_kx h
  rw [← eo_2] at hP hD
  exact bCv_wantNodes_64 C ih _ _ _ _ _ _ h hP hD hS (lv_sub hl [0, 1, 2, 3, 4] rfl)
set_option maxHeartbeats 4000000 in
set_option maxRecDepth 100000 in
theorem bCv_wantNodes_3 {p : Program} {l : Launch} {e : Env} {s : State} {m : MethodId} {below : List Frame} {meth : Method} {c : Code} {A : Nat → Prop} {D : va_G} {K : Nat → ClassId} {h0 : Nat} {a0 : Nat → Nat} {h1 : Nat} {a1 : Nat → Nat} {AR : Array Value} (C : (dc_C p s m AR meth c cCv_wantNodes 7 (Option.none : Option Jvm.ClassFile.FieldType) yCv_wantNodes ∧ cf_E D K A s s.heap ∧ ∀ q, s.heap.size ≤ q → A q)) {n : Nat} (ih : IhCv_wantNodes p l e s m below meth c A D K h0 a0 h1 a1 AR n) (v2 : Int64) (v4 : Int32) (v5 : Int32) (o0 : cf_O) (o1 : cf_O) (r : cf_O) (h : fCv_wantNodes_3 (gCv_wantNodes n) v2 v4 v5 o0 o1 = some r) {H : Heap} {locs : List Loc} {ls : Array Slot} (hP : va_P D vwCl (wCv K h0 a0 o0 ++ wGr K h1 a1 o1) H) (hD : va_D A (wCv K h0 a0 o0 ++ wGr K h1 a1 o1)) (hS : va_S A s.heap H locs) (hl : lv_has ls 7 [(0, .ref h0), (1, .ref h1), (2, .long v2), (4, .int v4), (5, .int v5)]) : W p l e ({ frames := 4, cells := 0, slots := 0, locals := 86 }) s m AR below meth c H locs 0 0 (MQ below (va_Qv (fun (_ : Unit) => True) (fun (_ : Unit) t => cf_At D A (wCv K h0 a0 r ++ wGr K h1 a1 o1) t) A) AR s 0 0 A) (F0 m 3 ls []) := by
  obtain ⟨⟨hx, hb, hr, hts, hown, hlocks, hin, hml⟩, hE, hA⟩ := id C
  have hK := hE.k
  refine lv_iload hx hb dCv_wantNodes_3 (lv_at hl 4 rfl) ?_
  refine lv_lload_n hx hb dCv_wantNodes_5 rfl (lv_at hl 2 rfl) ?_
  obtain ⟨q_1, hq_1, h⟩ := op_b h
  refine cf_pcalli (va_runS (As := [.long v2]) (rest := [.int v5]) ⟨hx, hb, hml, hown, hts⟩ (mCu_sizeOf l v2 _ hq_1) (va_cwS 1 hts (cf_GS wv_1490 wv_1359 wv_160 wv_1360) rfl rfl rfl (by decide +kernel) ⟨Nat.le_of_ble_eq_true rfl, Nat.le_of_ble_eq_true rfl⟩) preEq rfl rfl hl.1 rfl (lv_room (Nat.le_of_ble_eq_true rfl)) dCv_wantNodes_6 ⟨Nat.le_of_ble_eq_true rfl, Nat.le_of_ble_eq_true rfl⟩) (fun r_2 hw_3 => ?_)
  subst r_2
  refine lv_icmp_ge (tgt := 70) hx hb dCv_wantNodes_9 (by decide) (fun c_4 => ?_) (fun c_4 => ?_)
  · have h := op_t c_4 h
    obtain rfl := Option.some.inj h
    exact dc_vret hx hb hr hlocks rfl hP hD hS dCv_wantNodes_70
  · have h := op_f c_4 h
    refine lv_lload_n hx hb dCv_wantNodes_12 rfl (lv_at hl 2 rfl) ?_
    refine lv_iload hx hb dCv_wantNodes_13 (lv_at hl 4 rfl) ?_
    obtain ⟨q_5, hq_5, h⟩ := op_b h
    refine cf_pcalli (va_runS (As := [.long v2, .int v5]) (rest := []) ⟨hx, hb, hml, hown, hts⟩ (mCu_nodeAt l v2 v5 _ hq_5) (va_cwS 2 hts (cf_GS wv_1491 wv_1492 wv_160 wv_1493) rfl rfl rfl (by decide +kernel) ⟨Nat.le_of_ble_eq_true rfl, Nat.le_of_ble_eq_true rfl⟩) preEq rfl rfl hl.1 rfl (lv_room (Nat.le_of_ble_eq_true rfl)) dCv_wantNodes_15 ⟨Nat.le_of_ble_eq_true rfl, Nat.le_of_ble_eq_true rfl⟩) (fun r_6 hw_7 => ?_)
    subst r_6
    refine lv_istore (lv' := [(6, .int q_5), (0, .ref h0), (1, .ref h1), (2, .long v2), (4, .int v4), (5, .int v5)]) hx hb dCv_wantNodes_18 hl (by decide) rfl (fun ls hl => ?_)
    refine lv_aload_n hx hb dCv_wantNodes_20 rfl (lv_at hl 2 rfl) ?_
    refine lv_iload hx hb dCv_wantNodes_21 (lv_at hl 0 rfl) ?_
    obtain ⟨q_8, hq_8, h⟩ := op_b h
    refine cf_calli (wc := wGr K h1 a1 o1) (wr := wCv K h0 a0 o0) (va_runV (As := [.int q_5]) (rest := []) ⟨hx, hb, hml, hown, hts⟩ (mGr_isGate l D K _ q_5 h1 a1 o1 _ hq_8) (cwV 1 hts (cf_GV wv_1466 wv_1128 wv_1129 wv_171 wv_1130) rfl rfl rfl (by decide +kernel) ⟨Nat.le_of_ble_eq_true rfl, Nat.le_of_ble_eq_true rfl⟩) (cf_preV (wc := wGr K h1 a1 o1) hE hP hD hS hA rfl 6 rfl [6, 7, 8, 9, 10, 11, 12] rfl (by decide +kernel)) rfl rfl hl.1 rfl (lv_room (Nat.le_of_ble_eq_true rfl)) dCv_wantNodes_23 ⟨Nat.le_of_ble_eq_true rfl, Nat.le_of_ble_eq_true rfl⟩) hP hD hS hA [6, 7, 8, 9, 10, 11, 12] [0, 1, 2, 3, 4, 5] rfl rfl (by decide +kernel) (by decide +kernel) (fun r_9 _ H locs hw_10 hP hD hS => ?_)
    subst r_9
    have hP : va_P D vwCl (wCv K h0 a0 o0 ++ wGr K h1 a1 o1) H := hP.sub [0, 1, 2, 3, 4, 5, 6, 7, 8, 9, 10, 11, 12] rfl
    have hD : va_D A (wCv K h0 a0 o0 ++ wGr K h1 a1 o1) := hD.sub [0, 1, 2, 3, 4, 5, 6, 7, 8, 9, 10, 11, 12] (by decide +kernel) rfl
    refine lv_if_eq (tgt := 64) hx hb dCv_wantNodes_26 (by decide) (fun c_11 => ?_) (fun c_11 => ?_)
    · have h := op_t c_11 h
      exact bCv_wantNodes_64 C ih _ _ _ _ _ _ h hP hD hS (lv_sub hl [1, 2, 3, 4, 5] rfl)
    · have h := op_f c_11 h
      refine lv_aload_n hx hb dCv_wantNodes_29 rfl (lv_at hl 1 rfl) ?_
      refine va_get (D := D) (ci := 8) (v := .ref (a0 6)) (C := RCv) (T := TCv) (N := 7) hx hb hts inCv hown hK hP 0 rfl rfl 6 (by decide) (hts _ wv_380) (fun _ h9 => h9) rfl dCv_wantNodes_30 ?_
      refine lv_iload hx hb dCv_wantNodes_33 (lv_at hl 0 rfl) ?_
      refine lv_aload_n hx hb dCv_wantNodes_35 rfl (lv_at hl 1 rfl) ?_
      refine va_get (D := D) (ci := 8) (v := .ref (a0 6)) (C := RCv) (T := TCv) (N := 7) hx hb hts inCv hown hK hP 0 rfl rfl 6 (by decide) (hts _ wv_380) (fun _ h9 => h9) rfl dCv_wantNodes_36 ?_
      refine lv_iload hx hb dCv_wantNodes_39 (lv_at hl 0 rfl) ?_
      obtain ⟨hi_12, h⟩ := op_n h
      refine va_iald (D := D) hx hb hK hP 5 0 rfl rfl hi_12 dCv_wantNodes_41 ?_
      refine lv_topi (fun x_13 ex_13 => ?_)
      have h := op_ks ex_13 h
      refine lv_iconst (v := (-1)) hx hb dCv_wantNodes_42 (by decide) ?_
      refine lv_icmp_ne (tgt := 51) hx hb dCv_wantNodes_43 (by decide) (fun c_14 => ?_) (fun c_14 => ?_)
      · have h := op_f c_14 h
        refine lv_aload_n hx hb dCv_wantNodes_51 rfl (lv_at hl 1 rfl) ?_
        refine va_get (D := D) (ci := 8) (v := .ref (a0 6)) (C := RCv) (T := TCv) (N := 7) hx hb hts inCv hown hK hP 0 rfl rfl 6 (by decide) (hts _ wv_380) (fun _ h9 => h9) rfl dCv_wantNodes_52 ?_
        refine lv_iload hx hb dCv_wantNodes_55 (lv_at hl 0 rfl) ?_
        obtain ⟨hi_15, h⟩ := op_n h
        refine va_iald (D := D) hx hb hK hP 5 0 rfl rfl hi_15 dCv_wantNodes_57 ?_
        refine lv_topi (fun x_16 ex_16 => ?_)
        have h := op_ks ex_16 h
        refine lv_iload hx hb dCv_wantNodes_58 (lv_at hl 4 rfl) ?_
        refine va_mmin (x := x_16) (y := v4) hx hb (hml.trans hl.1.symm) hown (hts _ wv_1495) (hts _ wv_1059) (hts _ wv_182) (hts _ wv_1060) (Nat.le_of_ble_eq_true rfl) (Nat.le_of_ble_eq_true rfl) (Nat.le_of_ble_eq_true rfl) (Nat.le_of_ble_eq_true rfl) dCv_wantNodes_60 ?_
        refine lv_topi (fun x_17 ex_17 => ?_)
        have h := op_ks ex_17 h
        exact bCv_wantNodes_63 C ih _ _ _ _ _ _ _ _ h hP hD hS (lv_sub hl [1, 2, 3, 4, 5] rfl)
      · have h := op_t c_14 h
        refine lv_iload hx hb dCv_wantNodes_46 (lv_at hl 4 rfl) ?_
        refine lv_goto (tgt := 63) hx hb dCv_wantNodes_48 (by decide) ?_
        exact bCv_wantNodes_63 C ih _ _ _ _ _ _ _ _ h hP hD hS (lv_sub hl [1, 2, 3, 4, 5] rfl)
set_option maxHeartbeats 4000000 in
set_option maxRecDepth 100000 in
theorem bCv_wantNodes_0 {p : Program} {l : Launch} {e : Env} {s : State} {m : MethodId} {below : List Frame} {meth : Method} {c : Code} {A : Nat → Prop} {D : va_G} {K : Nat → ClassId} {h0 : Nat} {a0 : Nat → Nat} {h1 : Nat} {a1 : Nat → Nat} {AR : Array Value} (C : (dc_C p s m AR meth c cCv_wantNodes 7 (Option.none : Option Jvm.ClassFile.FieldType) yCv_wantNodes ∧ cf_E D K A s s.heap ∧ ∀ q, s.heap.size ≤ q → A q)) {n : Nat} (ih : IhCv_wantNodes p l e s m below meth c A D K h0 a0 h1 a1 AR n) (v2 : Int64) (v4 : Int32) (o0 : cf_O) (o1 : cf_O) (r : cf_O) (h : fCv_wantNodes_0 (gCv_wantNodes n) v2 v4 o0 o1 = some r) {H : Heap} {locs : List Loc} {ls : Array Slot} (hP : va_P D vwCl (wCv K h0 a0 o0 ++ wGr K h1 a1 o1) H) (hD : va_D A (wCv K h0 a0 o0 ++ wGr K h1 a1 o1)) (hS : va_S A s.heap H locs) (hl : lv_has ls 7 [(0, .ref h0), (1, .ref h1), (2, .long v2), (4, .int v4)]) : W p l e ({ frames := 4, cells := 0, slots := 0, locals := 86 }) s m AR below meth c H locs 0 0 (MQ below (va_Qv (fun (_ : Unit) => True) (fun (_ : Unit) t => cf_At D A (wCv K h0 a0 r ++ wGr K h1 a1 o1) t) A) AR s 0 0 A) (F0 m 0 ls []) := by
  obtain ⟨⟨hx, hb, hr, hts, hown, hlocks, hin, hml⟩, hE, hA⟩ := id C
  have hK := hE.k
  refine lv_iconst (v := 0) hx hb dCv_wantNodes_0 (by decide) ?_
  refine lv_istore (lv' := [(5, .int 0), (0, .ref h0), (1, .ref h1), (2, .long v2), (4, .int v4)]) hx hb dCv_wantNodes_1 hl (by decide) rfl (fun ls hl => ?_)
  exact (ih) _ _ _ _ _ _ h hP hD hS (lv_sub hl [1, 2, 3, 4, 0] rfl)
theorem iCv_wantNodes {p : Program} {l : Launch} {e : Env} {s : State} {m : MethodId} {below : List Frame} {meth : Method} {c : Code} {A : Nat → Prop} {D : va_G} {K : Nat → ClassId} {h0 : Nat} {a0 : Nat → Nat} {h1 : Nat} {a1 : Nat → Nat} {AR : Array Value} (C : (dc_C p s m AR meth c cCv_wantNodes 7 (Option.none : Option Jvm.ClassFile.FieldType) yCv_wantNodes ∧ cf_E D K A s s.heap ∧ ∀ q, s.heap.size ≤ q → A q)) : ∀ n, IhCv_wantNodes p l e s m below meth c A D K h0 a0 h1 a1 AR n := by
  intro n
  induction n with
  | zero => exact (fun _ _ _ _ _ r h => by cases (show none = some r from h))
  | succ n ih => exact fun x0 x1 x2 x3 x4 r h _ _ _ hP hD hS hl => bCv_wantNodes_3 C ih x0 x1 x2 x3 x4 r h hP hD hS hl
set_option maxRecDepth 100000 in
theorem mCv_wantNodes (l : Launch) (D : va_G) (K : Nat → ClassId) (sz : Nat) (v2 : Int64) (v4 : Int32) (h0 : Nat) (a0 : Nat → Nat) (h1 : Nat) (a1 : Nat → Nat) (o0 : cf_O) (o1 : cf_O) (r : cf_O) (h : fCv_wantNodes v2 v4 o0 o1 = some r) : Met l yCv_wantNodes (Cond.code yCv_wantNodes cCv_wantNodes 7 (Option.none : Option Jvm.ClassFile.FieldType) :: cfB) ({ frames := 4, cells := 0, slots := 0, locals := 86 }) (va_Pc [.ref h0, .ref h1, .long v2, .int v4] (cf_Pre D K sz (wCv K h0 a0 o0 ++ wGr K h1 a1 o1))) (va_Qv (fun (_ : Unit) => True) (fun (_ : Unit) t => cf_At D (va_A (wCv K h0 a0 o0 ++ wGr K h1 a1 o1) sz) (wCv K h0 a0 r ++ wGr K h1 a1 o1) t) (va_A (wCv K h0 a0 o0 ++ wGr K h1 a1 o1) sz)) 0 0 (va_A (wCv K h0 a0 o0 ++ wGr K h1 a1 o1) sz) := by
  refine cf_ofW (y := yCv_wantNodes) (As := [.ref h0, .ref h1, .long v2, .int v4]) (WS := wCv K h0 a0 o0 ++ wGr K h1 a1 o1) (maxL := 7) (fun A => (va_Qv (fun (_ : Unit) => True) (fun (_ : Unit) t => cf_At D A (wCv K h0 a0 r ++ wGr K h1 a1 o1) t) A)) (by decide) (Nat.le_of_ble_eq_true rfl) ?_
  intro p e s m below meth c A ls En hsz hA hP hD hE hS hl
  have C : (dc_C p s m (([.ref h0, .ref h1, .long v2, .int v4] : List Value).toArray) meth c cCv_wantNodes 7 (Option.none : Option Jvm.ClassFile.FieldType) yCv_wantNodes ∧ cf_E D K A s s.heap ∧ ∀ q, s.heap.size ≤ q → A q) := ⟨En, hE, hA⟩
  exact bCv_wantNodes_0 C (iCv_wantNodes C cfFU) v2 v4 o0 o1 r h hP hD hS hl
def IhCv_choose (p : Program) (l : Launch) (e : Env) (s : State) (m : MethodId) (below : List Frame) (meth : Method) (c : Code) (A : Nat → Prop) (D : va_G) (K : Nat → ClassId) (h0 : Nat) (a0 : Nat → Nat) (h1 : Nat) (a1 : Nat → Nat) (h2 : Nat) (a2 : Nat → Nat) (h3 : Nat) (a3 : Nat → Nat) (AR : Array Value) (n : Nat) : Prop := (∀ (v4 : Int32) (v5 : Int32) (o0 : cf_O) (o1 : cf_O) (o2 : cf_O) (o3 : cf_O) (r : cf_O × cf_O), gCv_choose n 0 v4 v5 o0 o1 o2 o3 = some r → ∀ {H : Heap} {locs : List Loc} {ls : Array Slot}, (va_P D vwCl (wCv K h0 a0 o0 ++ wGr K h1 a1 o1 ++ wCu K h2 a2 o2 ++ wCo K h3 a3 o3) H) → (va_D A (wCv K h0 a0 o0 ++ wGr K h1 a1 o1 ++ wCu K h2 a2 o2 ++ wCo K h3 a3 o3)) → va_S A s.heap H locs → lv_has ls 6 [(0, .ref h0), (1, .ref h1), (2, .ref h2), (3, .ref h3), (4, .int v4), (5, .int v5)] → W p l e ({ frames := 5, cells := 0, slots := 0, locals := 113 }) s m AR below meth c H locs 0 0 (MQ below (va_Qv (fun (_ : Unit) => True) (fun (_ : Unit) t => cf_At D A (wCv K h0 a0 r.1 ++ wGr K h1 a1 o1 ++ wCu K h2 a2 o2 ++ wCo K h3 a3 r.2) t) A) AR s 0 0 A) (F0 m 14 ls [])) ∧ (∀ (v5 : Int32) (o0 : cf_O) (o1 : cf_O) (o2 : cf_O) (o3 : cf_O) (r : cf_O × cf_O), gCv_choose n 1 0 v5 o0 o1 o2 o3 = some r → ∀ {H : Heap} {locs : List Loc} {ls : Array Slot}, (va_P D vwCl (wCv K h0 a0 o0 ++ wGr K h1 a1 o1 ++ wCu K h2 a2 o2 ++ wCo K h3 a3 o3) H) → (va_D A (wCv K h0 a0 o0 ++ wGr K h1 a1 o1 ++ wCu K h2 a2 o2 ++ wCo K h3 a3 o3)) → va_S A s.heap H locs → lv_has ls 6 [(0, .ref h0), (1, .ref h1), (2, .ref h2), (3, .ref h3), (5, .int v5)] → W p l e ({ frames := 5, cells := 0, slots := 0, locals := 113 }) s m AR below meth c H locs 0 0 (MQ below (va_Qv (fun (_ : Unit) => True) (fun (_ : Unit) t => cf_At D A (wCv K h0 a0 r.1 ++ wGr K h1 a1 o1 ++ wCu K h2 a2 o2 ++ wCo K h3 a3 r.2) t) A) AR s 0 0 A) (F0 m 103 ls []))
set_option maxHeartbeats 4000000 in
set_option maxRecDepth 100000 in
theorem bCv_choose_187 {p : Program} {l : Launch} {e : Env} {s : State} {m : MethodId} {below : List Frame} {meth : Method} {c : Code} {A : Nat → Prop} {D : va_G} {K : Nat → ClassId} {h0 : Nat} {a0 : Nat → Nat} {h1 : Nat} {a1 : Nat → Nat} {h2 : Nat} {a2 : Nat → Nat} {h3 : Nat} {a3 : Nat → Nat} {AR : Array Value} (C : (dc_C p s m AR meth c cCv_choose 6 (Option.none : Option Jvm.ClassFile.FieldType) yCv_choose ∧ cf_E D K A s s.heap ∧ ∀ q, s.heap.size ≤ q → A q)) {n : Nat} (ih : IhCv_choose p l e s m below meth c A D K h0 a0 h1 a1 h2 a2 h3 a3 AR n) (v5 : Int32) (o0 : cf_O) (o1 : cf_O) (o2 : cf_O) (o3 : cf_O) (r : cf_O × cf_O) (h : fCv_choose_187 (gCv_choose n) v5 o0 o1 o2 o3 = some r) {H : Heap} {locs : List Loc} {ls : Array Slot} (hP : va_P D vwCl (wCv K h0 a0 o0 ++ wGr K h1 a1 o1 ++ wCu K h2 a2 o2 ++ wCo K h3 a3 o3) H) (hD : va_D A (wCv K h0 a0 o0 ++ wGr K h1 a1 o1 ++ wCu K h2 a2 o2 ++ wCo K h3 a3 o3)) (hS : va_S A s.heap H locs) (hl : lv_has ls 6 [(0, .ref h0), (1, .ref h1), (2, .ref h2), (3, .ref h3), (5, .int v5)]) : W p l e ({ frames := 5, cells := 0, slots := 0, locals := 113 }) s m AR below meth c H locs 0 0 (MQ below (va_Qv (fun (_ : Unit) => True) (fun (_ : Unit) t => cf_At D A (wCv K h0 a0 r.1 ++ wGr K h1 a1 o1 ++ wCu K h2 a2 o2 ++ wCo K h3 a3 r.2) t) A) AR s 0 0 A) (F0 m 187 ls []) := by
  obtain ⟨⟨hx, hb, hr, hts, hown, hlocks, hin, hml⟩, hE, hA⟩ := id C
  have hK := hE.k
  obtain ⟨x_1, ex_1⟩ : ∃ y : Int32, y = v5 + 1 := ⟨_, rfl⟩
  refine lv_iinc (v := x_1) (lv' := [(5, .int x_1), (0, .ref h0), (1, .ref h1), (2, .ref h2), (3, .ref h3)]) hx hb dCv_choose_187 hl (k := 4) rfl (by rw [ex_1]; rfl) (by decide) rfl (fun ls hl => ?_)
  have h := op_ks ex_1 h
  refine lv_goto (tgt := 103) hx hb dCv_choose_190 (by decide) ?_
  exact (ih.2) _ _ _ _ _ _ h hP hD hS (lv_sub hl [1, 2, 3, 4, 0] rfl)
set_option maxHeartbeats 4000000 in
set_option maxRecDepth 100000 in
theorem bCv_choose_103 {p : Program} {l : Launch} {e : Env} {s : State} {m : MethodId} {below : List Frame} {meth : Method} {c : Code} {A : Nat → Prop} {D : va_G} {K : Nat → ClassId} {h0 : Nat} {a0 : Nat → Nat} {h1 : Nat} {a1 : Nat → Nat} {h2 : Nat} {a2 : Nat → Nat} {h3 : Nat} {a3 : Nat → Nat} {AR : Array Value} (C : (dc_C p s m AR meth c cCv_choose 6 (Option.none : Option Jvm.ClassFile.FieldType) yCv_choose ∧ cf_E D K A s s.heap ∧ ∀ q, s.heap.size ≤ q → A q)) {n : Nat} (ih : IhCv_choose p l e s m below meth c A D K h0 a0 h1 a1 h2 a2 h3 a3 AR n) (v5 : Int32) (o0 : cf_O) (o1 : cf_O) (o2 : cf_O) (o3 : cf_O) (r : cf_O × cf_O) (h : fCv_choose_103 (gCv_choose n) v5 o0 o1 o2 o3 = some r) {H : Heap} {locs : List Loc} {ls : Array Slot} (hP : va_P D vwCl (wCv K h0 a0 o0 ++ wGr K h1 a1 o1 ++ wCu K h2 a2 o2 ++ wCo K h3 a3 o3) H) (hD : va_D A (wCv K h0 a0 o0 ++ wGr K h1 a1 o1 ++ wCu K h2 a2 o2 ++ wCo K h3 a3 o3)) (hS : va_S A s.heap H locs) (hl : lv_has ls 6 [(0, .ref h0), (1, .ref h1), (2, .ref h2), (3, .ref h3), (5, .int v5)]) : W p l e ({ frames := 5, cells := 0, slots := 0, locals := 113 }) s m AR below meth c H locs 0 0 (MQ below (va_Qv (fun (_ : Unit) => True) (fun (_ : Unit) t => cf_At D A (wCv K h0 a0 r.1 ++ wGr K h1 a1 o1 ++ wCu K h2 a2 o2 ++ wCo K h3 a3 r.2) t) A) AR s 0 0 A) (F0 m 103 ls []) := by
  obtain ⟨⟨hx, hb, hr, hts, hown, hlocks, hin, hml⟩, hE, hA⟩ := id C
  have hK := hE.k
  refine lv_iload hx hb dCv_choose_103 (lv_at hl 4 rfl) ?_
  refine lv_aload_n hx hb dCv_choose_105 rfl (lv_at hl 1 rfl) ?_
  obtain ⟨q_1, hq_1, h⟩ := op_b h
  refine cf_calli (wc := wGr K h1 a1 o1) (wr := wCv K h0 a0 o0 ++ wCu K h2 a2 o2 ++ wCo K h3 a3 o3) (va_runV (As := []) (rest := [.int v5]) ⟨hx, hb, hml, hown, hts⟩ (mGr_size l D K _ h1 a1 o1 _ hq_1) (cwV 0 hts (cf_GV wv_1467 wv_1073 wv_1074 wv_171 wv_1075) rfl rfl rfl (by decide +kernel) ⟨Nat.le_of_ble_eq_true rfl, Nat.le_of_ble_eq_true rfl⟩) (cf_preV (wc := wGr K h1 a1 o1) hE hP hD hS hA rfl 6 rfl [6, 7, 8, 9, 10, 11, 12] rfl (by decide +kernel)) rfl rfl hl.1 rfl (lv_room (Nat.le_of_ble_eq_true rfl)) dCv_choose_106 ⟨Nat.le_of_ble_eq_true rfl, Nat.le_of_ble_eq_true rfl⟩) hP hD hS hA [6, 7, 8, 9, 10, 11, 12] [0, 1, 2, 3, 4, 5, 13, 14, 15, 16, 17, 18, 19, 20, 21] rfl rfl (by decide +kernel) (by decide +kernel) (fun r_2 _ H locs hw_3 hP hD hS => ?_)
  subst r_2
  have hP : va_P D vwCl (wCv K h0 a0 o0 ++ wGr K h1 a1 o1 ++ wCu K h2 a2 o2 ++ wCo K h3 a3 o3) H := hP.sub [0, 1, 2, 3, 4, 5, 15, 16, 17, 18, 19, 20, 21, 6, 7, 8, 9, 10, 11, 12, 13, 14] rfl
  have hD : va_D A (wCv K h0 a0 o0 ++ wGr K h1 a1 o1 ++ wCu K h2 a2 o2 ++ wCo K h3 a3 o3) := hD.sub [0, 1, 2, 3, 4, 5, 15, 16, 17, 18, 19, 20, 21, 6, 7, 8, 9, 10, 11, 12, 13, 14] (by decide +kernel) rfl
  refine lv_icmp_ge (tgt := 193) hx hb dCv_choose_109 (by decide) (fun c_4 => ?_) (fun c_4 => ?_)
  · have h := op_t c_4 h
    obtain rfl := Option.some.inj h
    exact dc_vret hx hb hr hlocks rfl hP hD hS dCv_choose_193
  · have h := op_f c_4 h
    refine lv_aload_n hx hb dCv_choose_112 rfl (lv_at hl 0 rfl) ?_
    refine va_get (D := D) (ci := 8) (v := .ref (a0 6)) (C := RCv) (T := TCv) (N := 7) hx hb hts inCv hown hK hP 0 rfl rfl 6 (by decide) (hts _ wv_380) (fun _ h9 => h9) rfl dCv_choose_113 ?_
    refine lv_iload hx hb dCv_choose_116 (lv_at hl 4 rfl) ?_
    obtain ⟨hi_5, h⟩ := op_n h
    refine va_iald (D := D) hx hb hK hP 5 0 rfl rfl hi_5 dCv_choose_118 ?_
    refine lv_topi (fun x_6 ex_6 => ?_)
    have h := op_ks ex_6 h
    refine lv_iconst (v := (-1)) hx hb dCv_choose_119 (by decide) ?_
    refine lv_icmp_eq (tgt := 187) hx hb dCv_choose_120 (by decide) (fun c_7 => ?_) (fun c_7 => ?_)
    · have h := op_t c_7 h
      exact bCv_choose_187 C ih _ _ _ _ _ _ h hP hD hS (lv_sub hl [0, 1, 2, 3, 4] rfl)
    · have h := op_f c_7 h
      refine lv_aload_n hx hb dCv_choose_123 rfl (lv_at hl 3 rfl) ?_
      refine lv_aload_n hx hb dCv_choose_124 rfl (lv_at hl 1 rfl) ?_
      refine lv_iload hx hb dCv_choose_125 (lv_at hl 4 rfl) ?_
      refine lv_aload_n hx hb dCv_choose_127 rfl (lv_at hl 0 rfl) ?_
      refine va_get (D := D) (ci := 8) (v := .ref (a0 5)) (C := RCv) (T := TCv) (N := 7) hx hb hts inCv hown hK hP 0 rfl rfl 5 (by decide) (hts _ wv_379) (fun _ h9 => h9) rfl dCv_choose_128 ?_
      refine lv_iload hx hb dCv_choose_131 (lv_at hl 4 rfl) ?_
      obtain ⟨hi_8, h⟩ := op_n h
      refine va_lald (D := D) hx hb hK hP 4 1 rfl rfl hi_8 dCv_choose_133 ?_
      refine lv_topl (fun x_9 ex_9 => ?_)
      have h := op_ks ex_9 h
      obtain ⟨q_10, hq_10, h⟩ := op_b h
      refine cf_callv (wc := wCo K h3 a3 o3 ++ wGr K h1 a1 o1) (wr := wCv K h0 a0 o0 ++ wCu K h2 a2 o2) (va_runV (As := [.ref h1, .int v5, .long x_9]) (rest := []) ⟨hx, hb, hml, hown, hts⟩ (mCo_find l D K _ v5 x_9 h3 a3 h1 a1 o3 o1 _ hq_10) (cwV 3 hts (cf_GV wv_1496 wv_1350 wv_1351 wv_161 wv_1352) rfl rfl rfl (by decide +kernel) ⟨Nat.le_of_ble_eq_true rfl, Nat.le_of_ble_eq_true rfl⟩) (cf_preV (wc := wCo K h3 a3 o3 ++ wGr K h1 a1 o1) hE hP hD hS hA rfl 18 rfl [18, 19, 20, 21, 6, 7, 8, 9, 10, 11, 12] rfl (by decide +kernel)) rfl rfl hl.1 rfl (lv_room (Nat.le_of_ble_eq_true rfl)) dCv_choose_134 ⟨Nat.le_of_ble_eq_true rfl, Nat.le_of_ble_eq_true rfl⟩) hP hD hS hA [18, 19, 20, 21, 6, 7, 8, 9, 10, 11, 12] [0, 1, 2, 3, 4, 5, 13, 14, 15, 16, 17] rfl rfl (by decide +kernel) (by decide +kernel) (fun _ H locs hw_11 hP hD hS => ?_)
      have hP : va_P D vwCl (wCv K h0 a0 o0 ++ wGr K h1 a1 o1 ++ wCu K h2 a2 o2 ++ wCo K h3 a3 q_10) H := hP.sub [0, 1, 2, 3, 4, 5, 15, 16, 17, 18, 19, 20, 21, 6, 7, 8, 9, 10, 11, 12, 13, 14] rfl
      have hD : va_D A (wCv K h0 a0 o0 ++ wGr K h1 a1 o1 ++ wCu K h2 a2 o2 ++ wCo K h3 a3 q_10) := hD.sub [0, 1, 2, 3, 4, 5, 15, 16, 17, 18, 19, 20, 21, 6, 7, 8, 9, 10, 11, 12, 13, 14] (by decide +kernel) rfl
      refine lv_aload_n hx hb dCv_choose_137 rfl (lv_at hl 0 rfl) ?_
      refine va_get (D := D) (ci := 8) (v := .ref (a0 2)) (C := RCv) (T := TCv) (N := 7) hx hb hts inCv hown hK hP 0 rfl rfl 2 (by decide) (hts _ wv_373) (fun _ h9 => h9) rfl dCv_choose_138 ?_
      refine lv_aload_n hx hb dCv_choose_141 rfl (lv_at hl 0 rfl) ?_
      refine va_get (D := D) (ci := 8) (v := .int (o0.1 0)) (C := RCv) (T := TCv) (N := 7) hx hb hts inCv hown hK hP 0 rfl rfl 0 (by decide) (hts _ wv_369) (fun _ h9 => h9) rfl dCv_choose_142 ?_
      refine lv_iload hx hb dCv_choose_145 (lv_at hl 4 rfl) ?_
      obtain ⟨hi_12, h⟩ := op_n h
      refine va_iast (D := D) hx hb hK hP hD hS 1 0 rfl rfl hi_12 dCv_choose_147 (fun H locs hP hD hS => ?_)
      have hP : va_P D vwCl (wCv K h0 a0 (xp o0 2 (o0.1 0).toNatClampNeg v5) ++ wGr K h1 a1 o1 ++ wCu K h2 a2 o2 ++ wCo K h3 a3 q_10) H := hP
      have hD : va_D A (wCv K h0 a0 (xp o0 2 (o0.1 0).toNatClampNeg v5) ++ wGr K h1 a1 o1 ++ wCu K h2 a2 o2 ++ wCo K h3 a3 q_10) := hD
      obtain ⟨o_13, eo_13, h⟩ := op_kx h
      rw [← eo_13] at hP hD
      refine lv_aload_n hx hb dCv_choose_148 rfl (lv_at hl 0 rfl) ?_
      refine va_get (D := D) (ci := 8) (v := .ref (a0 3)) (C := RCv) (T := TCv) (N := 7) hx hb hts inCv hown hK hP 0 rfl rfl 3 (by decide) (hts _ wv_375) (fun _ h9 => h9) rfl dCv_choose_149 ?_
      refine lv_aload_n hx hb dCv_choose_152 rfl (lv_at hl 0 rfl) ?_
      refine va_get (D := D) (ci := 8) (v := .int (o_13.1 0)) (C := RCv) (T := TCv) (N := 7) hx hb hts inCv hown hK hP 0 rfl rfl 0 (by decide) (hts _ wv_369) (fun _ h9 => h9) rfl dCv_choose_153 ?_
      refine lv_aload_n hx hb dCv_choose_156 rfl (lv_at hl 3 rfl) ?_
      refine va_get (D := D) (ci := 6) (v := .int (q_10.1 1)) (C := RCo) (T := TCo) (N := 5) hx hb hts inCo hown hK hP 18 rfl rfl 1 (by decide) (hts _ wv_294) (fun _ h9 => h9) rfl dCv_choose_157 ?_
      obtain ⟨hi_14, h⟩ := op_n h
      refine va_iast (D := D) hx hb hK hP hD hS 2 0 rfl rfl hi_14 dCv_choose_160 (fun H locs hP hD hS => ?_)
      have hP : va_P D vwCl (wCv K h0 a0 (xp o_13 3 (o_13.1 0).toNatClampNeg (q_10.1 1)) ++ wGr K h1 a1 o1 ++ wCu K h2 a2 o2 ++ wCo K h3 a3 q_10) H := hP
      have hD : va_D A (wCv K h0 a0 (xp o_13 3 (o_13.1 0).toNatClampNeg (q_10.1 1)) ++ wGr K h1 a1 o1 ++ wCu K h2 a2 o2 ++ wCo K h3 a3 q_10) := hD
      obtain ⟨o_15, eo_15, h⟩ := op_kx h
      rw [← eo_15] at hP hD
      refine lv_aload_n hx hb dCv_choose_161 rfl (lv_at hl 0 rfl) ?_
      refine va_get (D := D) (ci := 8) (v := .ref (a0 4)) (C := RCv) (T := TCv) (N := 7) hx hb hts inCv hown hK hP 0 rfl rfl 4 (by decide) (hts _ wv_377) (fun _ h9 => h9) rfl dCv_choose_162 ?_
      refine lv_aload_n hx hb dCv_choose_165 rfl (lv_at hl 0 rfl) ?_
      refine va_get (D := D) (ci := 8) (v := .int (o_15.1 0)) (C := RCv) (T := TCv) (N := 7) hx hb hts inCv hown hK hP 0 rfl rfl 0 (by decide) (hts _ wv_369) (fun _ h9 => h9) rfl dCv_choose_166 ?_
      refine lv_aload_n hx hb dCv_choose_169 rfl (lv_at hl 2 rfl) ?_
      refine va_get (D := D) (ci := 5) (v := .ref (a2 1)) (C := RCu) (T := TCu) (N := 6) hx hb hts inCu hown hK hP 13 rfl rfl 1 (by decide) (hts _ wv_267) (fun _ h9 => h9) rfl dCv_choose_170 ?_
      refine lv_iload hx hb dCv_choose_173 (lv_at hl 4 rfl) ?_
      obtain ⟨hi_16, h⟩ := op_n h
      refine va_iald (D := D) hx hb hK hP 14 0 rfl rfl hi_16 dCv_choose_175 ?_
      refine lv_topi (fun x_17 ex_17 => ?_)
      have h := op_ks ex_17 h
      obtain ⟨hi_18, h⟩ := op_n h
      refine va_iast (D := D) hx hb hK hP hD hS 3 0 rfl rfl hi_18 dCv_choose_176 (fun H locs hP hD hS => ?_)
      have hP : va_P D vwCl (wCv K h0 a0 (xp o_15 4 (o_15.1 0).toNatClampNeg x_17) ++ wGr K h1 a1 o1 ++ wCu K h2 a2 o2 ++ wCo K h3 a3 q_10) H := hP
      have hD : va_D A (wCv K h0 a0 (xp o_15 4 (o_15.1 0).toNatClampNeg x_17) ++ wGr K h1 a1 o1 ++ wCu K h2 a2 o2 ++ wCo K h3 a3 q_10) := hD
      obtain ⟨o_19, eo_19, h⟩ := op_kx h
      rw [← eo_19] at hP hD
      refine lv_aload_n hx hb dCv_choose_177 rfl (lv_at hl 0 rfl) ?_
      refine lv_dup hx hb dCv_choose_178 rfl ?_
      refine va_get (D := D) (ci := 8) (v := .int (o_19.1 0)) (C := RCv) (T := TCv) (N := 7) hx hb hts inCv hown hK hP 0 rfl rfl 0 (by decide) (hts _ wv_369) (fun _ h9 => h9) rfl dCv_choose_179 ?_
      refine lv_iconst (v := 1) hx hb dCv_choose_182 (by decide) ?_
      refine lv_iadd hx hb dCv_choose_183 ?_
      refine lv_topi (fun x_20 ex_20 => ?_)
      have h := op_ks ex_20 h
      refine va_put (D := D) (ci := 8) (v := .int x_20) (ty := .int) (C := RCv) (T := TCv) (N := 7) hx hb hts inCv tyCv tyokCv nmCv hown hK hP hD hS 0 rfl rfl 0 (by decide) (hts _ wv_369) (fun _ h9 => h9) rfl (by decide +kernel) rfl rfl (Nat.le_of_ble_eq_true rfl) dCv_choose_184 (fun H locs hP hD hS => ?_)
      have hP : va_P D vwCl (wCv K h0 a0 (fp o_19 0 x_20) ++ wGr K h1 a1 o1 ++ wCu K h2 a2 o2 ++ wCo K h3 a3 q_10) H := hP
      have hD : va_D A (wCv K h0 a0 (fp o_19 0 x_20) ++ wGr K h1 a1 o1 ++ wCu K h2 a2 o2 ++ wCo K h3 a3 q_10) := hD
      obtain ⟨o_21, eo_21, h⟩ := op_kx h
      rw [← eo_21] at hP hD
      exact bCv_choose_187 C ih _ _ _ _ _ _ h hP hD hS (lv_sub hl [0, 1, 2, 3, 4] rfl)
set_option maxHeartbeats 4000000 in
set_option maxRecDepth 100000 in
theorem bCv_choose_84 {p : Program} {l : Launch} {e : Env} {s : State} {m : MethodId} {below : List Frame} {meth : Method} {c : Code} {A : Nat → Prop} {D : va_G} {K : Nat → ClassId} {h0 : Nat} {a0 : Nat → Nat} {h1 : Nat} {a1 : Nat → Nat} {h2 : Nat} {a2 : Nat → Nat} {h3 : Nat} {a3 : Nat → Nat} {AR : Array Value} (C : (dc_C p s m AR meth c cCv_choose 6 (Option.none : Option Jvm.ClassFile.FieldType) yCv_choose ∧ cf_E D K A s s.heap ∧ ∀ q, s.heap.size ≤ q → A q)) {n : Nat} (ih : IhCv_choose p l e s m below meth c A D K h0 a0 h1 a1 h2 a2 h3 a3 AR n) (v4 : Int32) (v5 : Int32) (o0 : cf_O) (o1 : cf_O) (o2 : cf_O) (o3 : cf_O) (r : cf_O × cf_O) (h : fCv_choose_84 (gCv_choose n) v4 v5 o0 o1 o2 o3 = some r) {H : Heap} {locs : List Loc} {ls : Array Slot} (hP : va_P D vwCl (wCv K h0 a0 o0 ++ wGr K h1 a1 o1 ++ wCu K h2 a2 o2 ++ wCo K h3 a3 o3) H) (hD : va_D A (wCv K h0 a0 o0 ++ wGr K h1 a1 o1 ++ wCu K h2 a2 o2 ++ wCo K h3 a3 o3)) (hS : va_S A s.heap H locs) (hl : lv_has ls 6 [(0, .ref h0), (1, .ref h1), (2, .ref h2), (3, .ref h3), (4, .int v4), (5, .int v5)]) : W p l e ({ frames := 5, cells := 0, slots := 0, locals := 113 }) s m AR below meth c H locs 0 0 (MQ below (va_Qv (fun (_ : Unit) => True) (fun (_ : Unit) t => cf_At D A (wCv K h0 a0 r.1 ++ wGr K h1 a1 o1 ++ wCu K h2 a2 o2 ++ wCo K h3 a3 r.2) t) A) AR s 0 0 A) (F0 m 84 ls []) := by
  obtain ⟨⟨hx, hb, hr, hts, hown, hlocks, hin, hml⟩, hE, hA⟩ := id C
  have hK := hE.k
  obtain ⟨x_1, ex_1⟩ : ∃ y : Int32, y = v5 + (-1) := ⟨_, rfl⟩
  refine lv_iinc (v := x_1) (lv' := [(5, .int x_1), (0, .ref h0), (1, .ref h1), (2, .ref h2), (3, .ref h3), (4, .int v4)]) hx hb dCv_choose_84 hl (k := 5) rfl (by rw [ex_1]; rfl) (by decide) rfl (fun ls hl => ?_)
  have h := op_ks ex_1 h
  refine lv_goto (tgt := 14) hx hb dCv_choose_87 (by decide) ?_
  exact (ih.1) _ _ _ _ _ _ _ h hP hD hS (lv_sub hl [1, 2, 3, 4, 5, 0] rfl)
set_option maxHeartbeats 4000000 in
set_option maxRecDepth 100000 in
theorem bCv_choose_62 {p : Program} {l : Launch} {e : Env} {s : State} {m : MethodId} {below : List Frame} {meth : Method} {c : Code} {A : Nat → Prop} {D : va_G} {K : Nat → ClassId} {h0 : Nat} {a0 : Nat → Nat} {h1 : Nat} {a1 : Nat → Nat} {h2 : Nat} {a2 : Nat → Nat} {h3 : Nat} {a3 : Nat → Nat} {AR : Array Value} (C : (dc_C p s m AR meth c cCv_choose 6 (Option.none : Option Jvm.ClassFile.FieldType) yCv_choose ∧ cf_E D K A s s.heap ∧ ∀ q, s.heap.size ≤ q → A q)) {n : Nat} (ih : IhCv_choose p l e s m below meth c A D K h0 a0 h1 a1 h2 a2 h3 a3 AR n) (v4 : Int32) (v5 : Int32) (s1 : Int32) (s2 : Int64) (o0 : cf_O) (o1 : cf_O) (o2 : cf_O) (o3 : cf_O) (r : cf_O × cf_O) (h : fCv_choose_62 (gCv_choose n) v4 v5 s1 s2 o0 o1 o2 o3 = some r) {H : Heap} {locs : List Loc} {ls : Array Slot} (hP : va_P D vwCl (wCv K h0 a0 o0 ++ wGr K h1 a1 o1 ++ wCu K h2 a2 o2 ++ wCo K h3 a3 o3) H) (hD : va_D A (wCv K h0 a0 o0 ++ wGr K h1 a1 o1 ++ wCu K h2 a2 o2 ++ wCo K h3 a3 o3)) (hS : va_S A s.heap H locs) (hl : lv_has ls 6 [(0, .ref h0), (1, .ref h1), (2, .ref h2), (3, .ref h3), (4, .int v4), (5, .int v5)]) : W p l e ({ frames := 5, cells := 0, slots := 0, locals := 113 }) s m AR below meth c H locs 0 0 (MQ below (va_Qv (fun (_ : Unit) => True) (fun (_ : Unit) t => cf_At D A (wCv K h0 a0 r.1 ++ wGr K h1 a1 o1 ++ wCu K h2 a2 o2 ++ wCo K h3 a3 r.2) t) A) AR s 0 0 A) (F0 m 62 ls [.long s2, .int s1, .ref (a0 5)]) := by
  obtain ⟨⟨hx, hb, hr, hts, hown, hlocks, hin, hml⟩, hE, hA⟩ := id C
  have hK := hE.k
  obtain ⟨hi_1, h⟩ := op_n h
  refine va_last (D := D) hx hb hK hP hD hS 4 1 rfl rfl hi_1 dCv_choose_62 (fun H locs hP hD hS => ?_)
  have hP : va_P D vwCl (wCv K h0 a0 (yp o0 5 s1.toNatClampNeg s2) ++ wGr K h1 a1 o1 ++ wCu K h2 a2 o2 ++ wCo K h3 a3 o3) H := hP
  have hD : va_D A (wCv K h0 a0 (yp o0 5 s1.toNatClampNeg s2) ++ wGr K h1 a1 o1 ++ wCu K h2 a2 o2 ++ wCo K h3 a3 o3) := hD
  obtain ⟨o_2, eo_2, h⟩ := op_kx h
  rw [← eo_2] at hP hD
  refine lv_aload_n hx hb dCv_choose_63 rfl (lv_at hl 0 rfl) ?_
  refine lv_aload_n hx hb dCv_choose_64 rfl (lv_at hl 1 rfl) ?_
  refine lv_aload_n hx hb dCv_choose_65 rfl (lv_at hl 0 rfl) ?_
  refine va_get (D := D) (ci := 8) (v := .ref (a0 5)) (C := RCv) (T := TCv) (N := 7) hx hb hts inCv hown hK hP 0 rfl rfl 5 (by decide) (hts _ wv_379) (fun _ h9 => h9) rfl dCv_choose_66 ?_
  refine lv_iload hx hb dCv_choose_69 (lv_at hl 5 rfl) ?_
  obtain ⟨hi_3, h⟩ := op_n h
  refine va_lald (D := D) hx hb hK hP 4 1 rfl rfl hi_3 dCv_choose_71 ?_
  refine lv_topl (fun x_4 ex_4 => ?_)
  have h := op_ks ex_4 h
  refine lv_aload_n hx hb dCv_choose_72 rfl (lv_at hl 0 rfl) ?_
  refine va_get (D := D) (ci := 8) (v := .ref (a0 6)) (C := RCv) (T := TCv) (N := 7) hx hb hts inCv hown hK hP 0 rfl rfl 6 (by decide) (hts _ wv_380) (fun _ h9 => h9) rfl dCv_choose_73 ?_
  refine lv_iload hx hb dCv_choose_76 (lv_at hl 5 rfl) ?_
  obtain ⟨hi_5, h⟩ := op_n h
  refine va_iald (D := D) hx hb hK hP 5 0 rfl rfl hi_5 dCv_choose_78 ?_
  refine lv_topi (fun x_6 ex_6 => ?_)
  have h := op_ks ex_6 h
  refine lv_iconst (v := 1) hx hb dCv_choose_79 (by decide) ?_
  refine lv_isub hx hb dCv_choose_80 ?_
  refine lv_topi (fun x_7 ex_7 => ?_)
  have h := op_ks ex_7 h
  obtain ⟨q_8, hq_8, h⟩ := op_b h
  refine cf_callv (wc := wCv K h0 a0 o_2 ++ wGr K h1 a1 o1) (wr := wCu K h2 a2 o2 ++ wCo K h3 a3 o3) (va_runV (As := [.ref h1, .long x_4, .int x_7]) (rest := []) ⟨hx, hb, hml, hown, hts⟩ (mCv_wantNodes l D K _ x_4 x_7 h0 a0 h1 a1 o_2 o1 _ hq_8) (cwV 3 hts (cf_GV wv_1486 wv_1488 wv_55 wv_163 wv_1489) rfl rfl rfl (by decide +kernel) ⟨Nat.le_of_ble_eq_true rfl, Nat.le_of_ble_eq_true rfl⟩) (cf_preV (wc := wCv K h0 a0 o_2 ++ wGr K h1 a1 o1) hE hP hD hS hA rfl 0 rfl [0, 1, 2, 3, 4, 5, 6, 7, 8, 9, 10, 11, 12] rfl (by decide +kernel)) rfl rfl hl.1 rfl (lv_room (Nat.le_of_ble_eq_true rfl)) dCv_choose_81 ⟨Nat.le_of_ble_eq_true rfl, Nat.le_of_ble_eq_true rfl⟩) hP hD hS hA [0, 1, 2, 3, 4, 5, 6, 7, 8, 9, 10, 11, 12] [13, 14, 15, 16, 17, 18, 19, 20, 21] rfl rfl (by decide +kernel) (by decide +kernel) (fun _ H locs hw_9 hP hD hS => ?_)
  have hP : va_P D vwCl (wCv K h0 a0 q_8 ++ wGr K h1 a1 o1 ++ wCu K h2 a2 o2 ++ wCo K h3 a3 o3) H := hP.sub [9, 10, 11, 12, 13, 14, 15, 16, 17, 18, 19, 20, 21, 0, 1, 2, 3, 4, 5, 6, 7, 8] rfl
  have hD : va_D A (wCv K h0 a0 q_8 ++ wGr K h1 a1 o1 ++ wCu K h2 a2 o2 ++ wCo K h3 a3 o3) := hD.sub [9, 10, 11, 12, 13, 14, 15, 16, 17, 18, 19, 20, 21, 0, 1, 2, 3, 4, 5, 6, 7, 8] (by decide +kernel) rfl
  exact bCv_choose_84 C ih _ _ _ _ _ _ _ h hP hD hS (lv_sub hl [0, 1, 2, 3, 4, 5] rfl)
set_option maxHeartbeats 4000000 in
set_option maxRecDepth 100000 in
theorem bCv_choose_14 {p : Program} {l : Launch} {e : Env} {s : State} {m : MethodId} {below : List Frame} {meth : Method} {c : Code} {A : Nat → Prop} {D : va_G} {K : Nat → ClassId} {h0 : Nat} {a0 : Nat → Nat} {h1 : Nat} {a1 : Nat → Nat} {h2 : Nat} {a2 : Nat → Nat} {h3 : Nat} {a3 : Nat → Nat} {AR : Array Value} (C : (dc_C p s m AR meth c cCv_choose 6 (Option.none : Option Jvm.ClassFile.FieldType) yCv_choose ∧ cf_E D K A s s.heap ∧ ∀ q, s.heap.size ≤ q → A q)) {n : Nat} (ih : IhCv_choose p l e s m below meth c A D K h0 a0 h1 a1 h2 a2 h3 a3 AR n) (v4 : Int32) (v5 : Int32) (o0 : cf_O) (o1 : cf_O) (o2 : cf_O) (o3 : cf_O) (r : cf_O × cf_O) (h : fCv_choose_14 (gCv_choose n) v4 v5 o0 o1 o2 o3 = some r) {H : Heap} {locs : List Loc} {ls : Array Slot} (hP : va_P D vwCl (wCv K h0 a0 o0 ++ wGr K h1 a1 o1 ++ wCu K h2 a2 o2 ++ wCo K h3 a3 o3) H) (hD : va_D A (wCv K h0 a0 o0 ++ wGr K h1 a1 o1 ++ wCu K h2 a2 o2 ++ wCo K h3 a3 o3)) (hS : va_S A s.heap H locs) (hl : lv_has ls 6 [(0, .ref h0), (1, .ref h1), (2, .ref h2), (3, .ref h3), (4, .int v4), (5, .int v5)]) : W p l e ({ frames := 5, cells := 0, slots := 0, locals := 113 }) s m AR below meth c H locs 0 0 (MQ below (va_Qv (fun (_ : Unit) => True) (fun (_ : Unit) t => cf_At D A (wCv K h0 a0 r.1 ++ wGr K h1 a1 o1 ++ wCu K h2 a2 o2 ++ wCo K h3 a3 r.2) t) A) AR s 0 0 A) (F0 m 14 ls []) := by
  obtain ⟨⟨hx, hb, hr, hts, hown, hlocks, hin, hml⟩, hE, hA⟩ := id C
  have hK := hE.k
  refine lv_iload hx hb dCv_choose_14 (lv_at hl 5 rfl) ?_
  refine lv_aload_n hx hb dCv_choose_16 rfl (lv_at hl 1 rfl) ?_
  refine va_get (D := D) (ci := 3) (v := .int (o1.1 0)) (C := RGr) (T := TGr) (N := 10) hx hb hts inGr hown hK hP 6 rfl rfl 0 (by decide) (hts _ wv_549) (fun _ h9 => h9) rfl dCv_choose_17 ?_
  refine lv_icmp_le (tgt := 90) hx hb dCv_choose_20 (by decide) (fun c_1 => ?_) (fun c_1 => ?_)
  · have h := op_t c_1 h
    refine lv_aload_n hx hb dCv_choose_90 rfl (lv_at hl 0 rfl) ?_
    refine lv_iconst (v := 0) hx hb dCv_choose_91 (by decide) ?_
    refine va_put (D := D) (ci := 8) (v := .int 0) (ty := .int) (C := RCv) (T := TCv) (N := 7) hx hb hts inCv tyCv tyokCv nmCv hown hK hP hD hS 0 rfl rfl 0 (by decide) (hts _ wv_369) (fun _ h9 => h9) rfl (by decide +kernel) rfl rfl (Nat.le_of_ble_eq_true rfl) dCv_choose_92 (fun H locs hP hD hS => ?_)
    have hP : va_P D vwCl (wCv K h0 a0 (fp o0 0 0) ++ wGr K h1 a1 o1 ++ wCu K h2 a2 o2 ++ wCo K h3 a3 o3) H := hP
    have hD : va_D A (wCv K h0 a0 (fp o0 0 0) ++ wGr K h1 a1 o1 ++ wCu K h2 a2 o2 ++ wCo K h3 a3 o3) := hD
    obtain ⟨o_2, eo_2, h⟩ := op_kx h
    rw [← eo_2] at hP hD
    refine lv_aload_n hx hb dCv_choose_95 rfl (lv_at hl 1 rfl) ?_
    refine va_get (D := D) (ci := 3) (v := .int (o1.1 0)) (C := RGr) (T := TGr) (N := 10) hx hb hts inGr hown hK hP 6 rfl rfl 0 (by decide) (hts _ wv_549) (fun _ h9 => h9) rfl dCv_choose_96 ?_
    refine lv_iconst (v := 1) hx hb dCv_choose_99 (by decide) ?_
    refine lv_iadd hx hb dCv_choose_100 ?_
    refine lv_topi (fun x_3 ex_3 => ?_)
    have h := op_ks ex_3 h
    refine lv_istore (lv' := [(5, .int x_3), (0, .ref h0), (1, .ref h1), (2, .ref h2), (3, .ref h3), (4, .int v4)]) hx hb dCv_choose_101 hl (by decide) rfl (fun ls hl => ?_)
    exact (ih.2) _ _ _ _ _ _ h hP hD hS (lv_sub hl [1, 2, 3, 4, 0] rfl)
  · have h := op_f c_1 h
    refine lv_aload_n hx hb dCv_choose_23 rfl (lv_at hl 0 rfl) ?_
    refine va_get (D := D) (ci := 8) (v := .ref (a0 6)) (C := RCv) (T := TCv) (N := 7) hx hb hts inCv hown hK hP 0 rfl rfl 6 (by decide) (hts _ wv_380) (fun _ h9 => h9) rfl dCv_choose_24 ?_
    refine lv_iload hx hb dCv_choose_27 (lv_at hl 5 rfl) ?_
    obtain ⟨hi_4, h⟩ := op_n h
    refine va_iald (D := D) hx hb hK hP 5 0 rfl rfl hi_4 dCv_choose_29 ?_
    refine lv_topi (fun x_5 ex_5 => ?_)
    have h := op_ks ex_5 h
    refine lv_iconst (v := (-1)) hx hb dCv_choose_30 (by decide) ?_
    refine lv_icmp_eq (tgt := 84) hx hb dCv_choose_31 (by decide) (fun c_6 => ?_) (fun c_6 => ?_)
    · have h := op_t c_6 h
      exact bCv_choose_84 C ih _ _ _ _ _ _ _ h hP hD hS (lv_sub hl [0, 1, 2, 3, 4, 5] rfl)
    · have h := op_f c_6 h
      refine lv_aload_n hx hb dCv_choose_34 rfl (lv_at hl 0 rfl) ?_
      refine va_get (D := D) (ci := 8) (v := .ref (a0 5)) (C := RCv) (T := TCv) (N := 7) hx hb hts inCv hown hK hP 0 rfl rfl 5 (by decide) (hts _ wv_379) (fun _ h9 => h9) rfl dCv_choose_35 ?_
      refine lv_iload hx hb dCv_choose_38 (lv_at hl 5 rfl) ?_
      refine lv_iload hx hb dCv_choose_40 (lv_at hl 4 rfl) ?_
      refine lv_if_eq (tgt := 56) hx hb dCv_choose_42 (by decide) (fun c_7 => ?_) (fun c_7 => ?_)
      · have h := op_t c_7 h
        refine lv_aload_n hx hb dCv_choose_56 rfl (lv_at hl 2 rfl) ?_
        refine lv_iload hx hb dCv_choose_57 (lv_at hl 5 rfl) ?_
        obtain ⟨q_8, hq_8, h⟩ := op_b h
        refine cf_calll (wc := wCu K h2 a2 o2) (wr := wCv K h0 a0 o0 ++ wGr K h1 a1 o1 ++ wCo K h3 a3 o3) (va_runV (As := [.int v5]) (rest := [.int v5, .ref (a0 5)]) ⟨hx, hb, hml, hown, hts⟩ (mCu_bestOf l D K _ v5 h2 a2 o2 _ hq_8) (cwV 1 hts (cf_GV wv_1485 wv_1337 wv_1338 wv_160 wv_1339) rfl rfl rfl (by decide +kernel) ⟨Nat.le_of_ble_eq_true rfl, Nat.le_of_ble_eq_true rfl⟩) (cf_preV (wc := wCu K h2 a2 o2) hE hP hD hS hA rfl 13 rfl [13, 14, 15, 16, 17] rfl (by decide +kernel)) rfl rfl hl.1 rfl (lv_room (Nat.le_of_ble_eq_true rfl)) dCv_choose_59 ⟨Nat.le_of_ble_eq_true rfl, Nat.le_of_ble_eq_true rfl⟩) hP hD hS hA [13, 14, 15, 16, 17] [0, 1, 2, 3, 4, 5, 6, 7, 8, 9, 10, 11, 12, 18, 19, 20, 21] rfl rfl (by decide +kernel) (by decide +kernel) (fun r_9 _ H locs hw_10 hP hD hS => ?_)
        subst r_9
        have hP : va_P D vwCl (wCv K h0 a0 o0 ++ wGr K h1 a1 o1 ++ wCu K h2 a2 o2 ++ wCo K h3 a3 o3) H := hP.sub [0, 1, 2, 3, 4, 5, 6, 7, 8, 9, 10, 11, 12, 17, 18, 19, 20, 21, 13, 14, 15, 16] rfl
        have hD : va_D A (wCv K h0 a0 o0 ++ wGr K h1 a1 o1 ++ wCu K h2 a2 o2 ++ wCo K h3 a3 o3) := hD.sub [0, 1, 2, 3, 4, 5, 6, 7, 8, 9, 10, 11, 12, 17, 18, 19, 20, 21, 13, 14, 15, 16] (by decide +kernel) rfl
        exact bCv_choose_62 C ih _ _ _ _ _ _ _ _ _ h hP hD hS (lv_sub hl [0, 1, 2, 3, 4, 5] rfl)
      · have h := op_f c_7 h
        refine lv_aload_n hx hb dCv_choose_45 rfl (lv_at hl 0 rfl) ?_
        refine lv_aload_n hx hb dCv_choose_46 rfl (lv_at hl 1 rfl) ?_
        refine lv_aload_n hx hb dCv_choose_47 rfl (lv_at hl 2 rfl) ?_
        refine lv_iload hx hb dCv_choose_48 (lv_at hl 5 rfl) ?_
        obtain ⟨q_11, hq_11, h⟩ := op_b h
        refine cf_calll (wc := wCv K h0 a0 o0 ++ wGr K h1 a1 o1 ++ wCu K h2 a2 o2) (wr := wCo K h3 a3 o3) (va_runV (As := [.ref h1, .ref h2, .int v5]) (rest := [.int v5, .ref (a0 5)]) ⟨hx, hb, hml, hown, hts⟩ (mCv_fewest l D K _ v5 h0 a0 h1 a1 h2 a2 o0 o1 o2 _ hq_11) (cwV 3 hts (cf_GV wv_1468 wv_1470 wv_53 wv_163 wv_1471) rfl rfl rfl (by decide +kernel) ⟨Nat.le_of_ble_eq_true rfl, Nat.le_of_ble_eq_true rfl⟩) (cf_preV (wc := wCv K h0 a0 o0 ++ wGr K h1 a1 o1 ++ wCu K h2 a2 o2) hE hP hD hS hA rfl 0 rfl [0, 1, 2, 3, 4, 5, 6, 7, 8, 9, 10, 11, 12, 13, 14, 15, 16, 17] rfl (by decide +kernel)) rfl rfl hl.1 rfl (lv_room (Nat.le_of_ble_eq_true rfl)) dCv_choose_50 ⟨Nat.le_of_ble_eq_true rfl, Nat.le_of_ble_eq_true rfl⟩) hP hD hS hA [0, 1, 2, 3, 4, 5, 6, 7, 8, 9, 10, 11, 12, 13, 14, 15, 16, 17] [18, 19, 20, 21] rfl rfl (by decide +kernel) (by decide +kernel) (fun r_12 _ H locs hw_13 hP hD hS => ?_)
        subst r_12
        have hP : va_P D vwCl (wCv K h0 a0 o0 ++ wGr K h1 a1 o1 ++ wCu K h2 a2 o2 ++ wCo K h3 a3 o3) H := hP.sub [4, 5, 6, 7, 8, 9, 10, 11, 12, 13, 14, 15, 16, 17, 18, 19, 20, 21, 0, 1, 2, 3] rfl
        have hD : va_D A (wCv K h0 a0 o0 ++ wGr K h1 a1 o1 ++ wCu K h2 a2 o2 ++ wCo K h3 a3 o3) := hD.sub [4, 5, 6, 7, 8, 9, 10, 11, 12, 13, 14, 15, 16, 17, 18, 19, 20, 21, 0, 1, 2, 3] (by decide +kernel) rfl
        refine lv_goto (tgt := 62) hx hb dCv_choose_53 (by decide) ?_
        exact bCv_choose_62 C ih _ _ _ _ _ _ _ _ _ h hP hD hS (lv_sub hl [0, 1, 2, 3, 4, 5] rfl)
set_option maxHeartbeats 4000000 in
set_option maxRecDepth 100000 in
theorem bCv_choose_0 {p : Program} {l : Launch} {e : Env} {s : State} {m : MethodId} {below : List Frame} {meth : Method} {c : Code} {A : Nat → Prop} {D : va_G} {K : Nat → ClassId} {h0 : Nat} {a0 : Nat → Nat} {h1 : Nat} {a1 : Nat → Nat} {h2 : Nat} {a2 : Nat → Nat} {h3 : Nat} {a3 : Nat → Nat} {AR : Array Value} (C : (dc_C p s m AR meth c cCv_choose 6 (Option.none : Option Jvm.ClassFile.FieldType) yCv_choose ∧ cf_E D K A s s.heap ∧ ∀ q, s.heap.size ≤ q → A q)) {n : Nat} (ih : IhCv_choose p l e s m below meth c A D K h0 a0 h1 a1 h2 a2 h3 a3 AR n) (v4 : Int32) (o0 : cf_O) (o1 : cf_O) (o2 : cf_O) (o3 : cf_O) (r : cf_O × cf_O) (h : fCv_choose_0 (gCv_choose n) v4 o0 o1 o2 o3 = some r) {H : Heap} {locs : List Loc} {ls : Array Slot} (hP : va_P D vwCl (wCv K h0 a0 o0 ++ wGr K h1 a1 o1 ++ wCu K h2 a2 o2 ++ wCo K h3 a3 o3) H) (hD : va_D A (wCv K h0 a0 o0 ++ wGr K h1 a1 o1 ++ wCu K h2 a2 o2 ++ wCo K h3 a3 o3)) (hS : va_S A s.heap H locs) (hl : lv_has ls 6 [(0, .ref h0), (1, .ref h1), (2, .ref h2), (3, .ref h3), (4, .int v4)]) : W p l e ({ frames := 5, cells := 0, slots := 0, locals := 113 }) s m AR below meth c H locs 0 0 (MQ below (va_Qv (fun (_ : Unit) => True) (fun (_ : Unit) t => cf_At D A (wCv K h0 a0 r.1 ++ wGr K h1 a1 o1 ++ wCu K h2 a2 o2 ++ wCo K h3 a3 r.2) t) A) AR s 0 0 A) (F0 m 0 ls []) := by
  obtain ⟨⟨hx, hb, hr, hts, hown, hlocks, hin, hml⟩, hE, hA⟩ := id C
  have hK := hE.k
  refine lv_aload_n hx hb dCv_choose_0 rfl (lv_at hl 0 rfl) ?_
  refine lv_aload_n hx hb dCv_choose_1 rfl (lv_at hl 1 rfl) ?_
  refine lv_aload_n hx hb dCv_choose_2 rfl (lv_at hl 2 rfl) ?_
  obtain ⟨q_1, hq_1, h⟩ := op_b h
  refine cf_callv (wc := wCv K h0 a0 o0 ++ wGr K h1 a1 o1 ++ wCu K h2 a2 o2) (wr := wCo K h3 a3 o3) (va_runV (As := [.ref h1, .ref h2]) (rest := []) ⟨hx, hb, hml, hown, hts⟩ (mCv_wantOutputs l D K _ h0 a0 h1 a1 h2 a2 o0 o1 o2 _ hq_1) (cwV 2 hts (cf_GV wv_1460 wv_1462 wv_52 wv_163 wv_1463) rfl rfl rfl (by decide +kernel) ⟨Nat.le_of_ble_eq_true rfl, Nat.le_of_ble_eq_true rfl⟩) (cf_preV (wc := wCv K h0 a0 o0 ++ wGr K h1 a1 o1 ++ wCu K h2 a2 o2) hE hP hD hS hA rfl 0 rfl [0, 1, 2, 3, 4, 5, 6, 7, 8, 9, 10, 11, 12, 13, 14, 15, 16, 17] rfl (by decide +kernel)) rfl rfl hl.1 rfl (lv_room (Nat.le_of_ble_eq_true rfl)) dCv_choose_3 ⟨Nat.le_of_ble_eq_true rfl, Nat.le_of_ble_eq_true rfl⟩) hP hD hS hA [0, 1, 2, 3, 4, 5, 6, 7, 8, 9, 10, 11, 12, 13, 14, 15, 16, 17] [18, 19, 20, 21] rfl rfl (by decide +kernel) (by decide +kernel) (fun _ H locs hw_2 hP hD hS => ?_)
  have hP : va_P D vwCl (wCv K h0 a0 q_1 ++ wGr K h1 a1 o1 ++ wCu K h2 a2 o2 ++ wCo K h3 a3 o3) H := hP.sub [4, 5, 6, 7, 8, 9, 10, 11, 12, 13, 14, 15, 16, 17, 18, 19, 20, 21, 0, 1, 2, 3] rfl
  have hD : va_D A (wCv K h0 a0 q_1 ++ wGr K h1 a1 o1 ++ wCu K h2 a2 o2 ++ wCo K h3 a3 o3) := hD.sub [4, 5, 6, 7, 8, 9, 10, 11, 12, 13, 14, 15, 16, 17, 18, 19, 20, 21, 0, 1, 2, 3] (by decide +kernel) rfl
  refine lv_aload_n hx hb dCv_choose_6 rfl (lv_at hl 1 rfl) ?_
  obtain ⟨q_3, hq_3, h⟩ := op_b h
  refine cf_calli (wc := wGr K h1 a1 o1) (wr := wCv K h0 a0 q_1 ++ wCu K h2 a2 o2 ++ wCo K h3 a3 o3) (va_runV (As := []) (rest := []) ⟨hx, hb, hml, hown, hts⟩ (mGr_size l D K _ h1 a1 o1 _ hq_3) (cwV 0 hts (cf_GV wv_1467 wv_1073 wv_1074 wv_171 wv_1075) rfl rfl rfl (by decide +kernel) ⟨Nat.le_of_ble_eq_true rfl, Nat.le_of_ble_eq_true rfl⟩) (cf_preV (wc := wGr K h1 a1 o1) hE hP hD hS hA rfl 6 rfl [6, 7, 8, 9, 10, 11, 12] rfl (by decide +kernel)) rfl rfl hl.1 rfl (lv_room (Nat.le_of_ble_eq_true rfl)) dCv_choose_7 ⟨Nat.le_of_ble_eq_true rfl, Nat.le_of_ble_eq_true rfl⟩) hP hD hS hA [6, 7, 8, 9, 10, 11, 12] [0, 1, 2, 3, 4, 5, 13, 14, 15, 16, 17, 18, 19, 20, 21] rfl rfl (by decide +kernel) (by decide +kernel) (fun r_4 _ H locs hw_5 hP hD hS => ?_)
  subst r_4
  have hP : va_P D vwCl (wCv K h0 a0 q_1 ++ wGr K h1 a1 o1 ++ wCu K h2 a2 o2 ++ wCo K h3 a3 o3) H := hP.sub [0, 1, 2, 3, 4, 5, 15, 16, 17, 18, 19, 20, 21, 6, 7, 8, 9, 10, 11, 12, 13, 14] rfl
  have hD : va_D A (wCv K h0 a0 q_1 ++ wGr K h1 a1 o1 ++ wCu K h2 a2 o2 ++ wCo K h3 a3 o3) := hD.sub [0, 1, 2, 3, 4, 5, 15, 16, 17, 18, 19, 20, 21, 6, 7, 8, 9, 10, 11, 12, 13, 14] (by decide +kernel) rfl
  refine lv_iconst (v := 1) hx hb dCv_choose_10 (by decide) ?_
  refine lv_isub hx hb dCv_choose_11 ?_
  refine lv_topi (fun x_6 ex_6 => ?_)
  have h := op_ks ex_6 h
  refine lv_istore (lv' := [(5, .int x_6), (0, .ref h0), (1, .ref h1), (2, .ref h2), (3, .ref h3), (4, .int v4)]) hx hb dCv_choose_12 hl (by decide) rfl (fun ls hl => ?_)
  exact (ih.1) _ _ _ _ _ _ _ h hP hD hS (lv_sub hl [1, 2, 3, 4, 5, 0] rfl)
theorem iCv_choose {p : Program} {l : Launch} {e : Env} {s : State} {m : MethodId} {below : List Frame} {meth : Method} {c : Code} {A : Nat → Prop} {D : va_G} {K : Nat → ClassId} {h0 : Nat} {a0 : Nat → Nat} {h1 : Nat} {a1 : Nat → Nat} {h2 : Nat} {a2 : Nat → Nat} {h3 : Nat} {a3 : Nat → Nat} {AR : Array Value} (C : (dc_C p s m AR meth c cCv_choose 6 (Option.none : Option Jvm.ClassFile.FieldType) yCv_choose ∧ cf_E D K A s s.heap ∧ ∀ q, s.heap.size ≤ q → A q)) : ∀ n, IhCv_choose p l e s m below meth c A D K h0 a0 h1 a1 h2 a2 h3 a3 AR n := by
  intro n
  induction n with
  | zero => exact ⟨(fun _ _ _ _ _ _ r h => by cases (show none = some r from h)), (fun _ _ _ _ _ r h => by cases (show none = some r from h))⟩
  | succ n ih => exact ⟨fun x0 x1 x2 x3 x4 x5 r h _ _ _ hP hD hS hl => bCv_choose_14 C ih x0 x1 x2 x3 x4 x5 r h hP hD hS hl, fun x0 x1 x2 x3 x4 r h _ _ _ hP hD hS hl => bCv_choose_103 C ih x0 x1 x2 x3 x4 r h hP hD hS hl⟩
set_option maxRecDepth 100000 in
theorem mCv_choose (l : Launch) (D : va_G) (K : Nat → ClassId) (sz : Nat) (v4 : Int32) (h0 : Nat) (a0 : Nat → Nat) (h1 : Nat) (a1 : Nat → Nat) (h2 : Nat) (a2 : Nat → Nat) (h3 : Nat) (a3 : Nat → Nat) (o0 : cf_O) (o1 : cf_O) (o2 : cf_O) (o3 : cf_O) (r : cf_O × cf_O) (h : fCv_choose v4 o0 o1 o2 o3 = some r) : Met l yCv_choose (Cond.code yCv_choose cCv_choose 6 (Option.none : Option Jvm.ClassFile.FieldType) :: cfB) ({ frames := 5, cells := 0, slots := 0, locals := 113 }) (va_Pc [.ref h0, .ref h1, .ref h2, .ref h3, .int v4] (cf_Pre D K sz (wCv K h0 a0 o0 ++ wGr K h1 a1 o1 ++ wCu K h2 a2 o2 ++ wCo K h3 a3 o3))) (va_Qv (fun (_ : Unit) => True) (fun (_ : Unit) t => cf_At D (va_A (wCv K h0 a0 o0 ++ wGr K h1 a1 o1 ++ wCu K h2 a2 o2 ++ wCo K h3 a3 o3) sz) (wCv K h0 a0 r.1 ++ wGr K h1 a1 o1 ++ wCu K h2 a2 o2 ++ wCo K h3 a3 r.2) t) (va_A (wCv K h0 a0 o0 ++ wGr K h1 a1 o1 ++ wCu K h2 a2 o2 ++ wCo K h3 a3 o3) sz)) 0 0 (va_A (wCv K h0 a0 o0 ++ wGr K h1 a1 o1 ++ wCu K h2 a2 o2 ++ wCo K h3 a3 o3) sz) := by
  refine cf_ofW (y := yCv_choose) (As := [.ref h0, .ref h1, .ref h2, .ref h3, .int v4]) (WS := wCv K h0 a0 o0 ++ wGr K h1 a1 o1 ++ wCu K h2 a2 o2 ++ wCo K h3 a3 o3) (maxL := 6) (fun A => (va_Qv (fun (_ : Unit) => True) (fun (_ : Unit) t => cf_At D A (wCv K h0 a0 r.1 ++ wGr K h1 a1 o1 ++ wCu K h2 a2 o2 ++ wCo K h3 a3 r.2) t) A)) (by decide) (Nat.le_of_ble_eq_true rfl) ?_
  intro p e s m below meth c A ls En hsz hA hP hD hE hS hl
  have C : (dc_C p s m (([.ref h0, .ref h1, .ref h2, .ref h3, .int v4] : List Value).toArray) meth c cCv_choose 6 (Option.none : Option Jvm.ClassFile.FieldType) yCv_choose ∧ cf_E D K A s s.heap ∧ ∀ q, s.heap.size ≤ q → A q) := ⟨En, hE, hA⟩
  exact bCv_choose_0 C (iCv_choose C cfFU) v4 o0 o1 o2 o3 r h hP hD hS hl
set_option maxHeartbeats 4000000 in
set_option maxRecDepth 100000 in
theorem bJArraysSupport_newLength_III_21 {p : Program} {l : Launch} {e : Env} {s : State} {m : MethodId} {below : List Frame} {meth : Method} {c : Code} {AR : Array Value} (C : dc_C p s m AR meth c cJArraysSupport_newLength_III 4 (Option.some Jvm.ClassFile.FieldType.int) yJArraysSupport_newLength_III) (v0 : Int32) (v1 : Int32) (r : Int32) (h : fJArraysSupport_newLength_III_21 v0 v1 = some r) {ls : Array Slot} (hl : lv_has ls 4 [(0, .int v0), (1, .int v1)]) : W p l e ({ frames := 1, cells := 0, slots := 0, locals := 34 }) s m AR below meth c s.heap [] 0 0 (MQ below (cf_Pi (fun x => x = r)) AR s 0 0 (fun _ => False)) (F0 m 21 ls []) := by
  obtain ⟨hx, hb, hr, hts, hown, hlocks, hin, hml⟩ := id C
  refine lv_iload_n hx hb dJArraysSupport_newLength_III_21 rfl (lv_at hl 0 rfl) ?_
  refine lv_iload_n hx hb dJArraysSupport_newLength_III_22 rfl (lv_at hl 1 rfl) ?_
  cases h
set_option maxHeartbeats 4000000 in
set_option maxRecDepth 100000 in
theorem bJArraysSupport_newLength_III_0 {p : Program} {l : Launch} {e : Env} {s : State} {m : MethodId} {below : List Frame} {meth : Method} {c : Code} {AR : Array Value} (C : dc_C p s m AR meth c cJArraysSupport_newLength_III 4 (Option.some Jvm.ClassFile.FieldType.int) yJArraysSupport_newLength_III) (v0 : Int32) (v1 : Int32) (v2 : Int32) (r : Int32) (h : fJArraysSupport_newLength_III_0 v0 v1 v2 = some r) {ls : Array Slot} (hl : lv_has ls 4 [(0, .int v0), (1, .int v1), (2, .int v2)]) : W p l e ({ frames := 1, cells := 0, slots := 0, locals := 34 }) s m AR below meth c s.heap [] 0 0 (MQ below (cf_Pi (fun x => x = r)) AR s 0 0 (fun _ => False)) (F0 m 0 ls []) := by
  obtain ⟨hx, hb, hr, hts, hown, hlocks, hin, hml⟩ := id C
  refine lv_iload_n hx hb dJArraysSupport_newLength_III_0 rfl (lv_at hl 0 rfl) ?_
  refine lv_iload_n hx hb dJArraysSupport_newLength_III_1 rfl (lv_at hl 1 rfl) ?_
  refine lv_iload_n hx hb dJArraysSupport_newLength_III_2 rfl (lv_at hl 2 rfl) ?_
  refine va_mmax (x := v1) (y := v2) hx hb (hml.trans hl.1.symm) hown (hts _ wv_1576) (hts _ wv_1062) (hts _ wv_182) (hts _ wv_1063) (Nat.le_of_ble_eq_true rfl) (Nat.le_of_ble_eq_true rfl) (Nat.le_of_ble_eq_true rfl) (Nat.le_of_ble_eq_true rfl) dJArraysSupport_newLength_III_3 ?_
  refine lv_topi (fun x_1 ex_1 => ?_)
  have h := op_ks ex_1 h
  refine lv_iadd hx hb dJArraysSupport_newLength_III_6 ?_
  refine lv_topi (fun x_2 ex_2 => ?_)
  have h := op_ks ex_2 h
  refine lv_istore_n (lv' := [(3, .int x_2), (0, .int v0), (1, .int v1), (2, .int v2)]) hx hb dJArraysSupport_newLength_III_7 rfl hl (by decide) rfl (fun ls hl => ?_)
  refine lv_iconst (v := 0) hx hb dJArraysSupport_newLength_III_8 (by decide) ?_
  refine lv_iload_n hx hb dJArraysSupport_newLength_III_9 rfl (lv_at hl 0 rfl) ?_
  refine lv_icmp_ge (tgt := 21) hx hb dJArraysSupport_newLength_III_10 (by decide) (fun c_3 => ?_) (fun c_3 => ?_)
  · have h := op_t c_3 h
    exact bJArraysSupport_newLength_III_21 C _ _ _ h (lv_sub hl [1, 2] rfl)
  · have h := op_f c_3 h
    refine lv_iload_n hx hb dJArraysSupport_newLength_III_13 rfl (lv_at hl 0 rfl) ?_
    refine lv_ldc (v := 2147483639) hx hb hown (hts _ wv_1577) dJArraysSupport_newLength_III_14 ?_
    refine lv_icmp_gt (tgt := 21) hx hb dJArraysSupport_newLength_III_16 (by decide) (fun c_4 => ?_) (fun c_4 => ?_)
    · have h := op_t c_4 h
      exact bJArraysSupport_newLength_III_21 C _ _ _ h (lv_sub hl [1, 2] rfl)
    · have h := op_f c_4 h
      refine lv_iload_n hx hb dJArraysSupport_newLength_III_19 rfl (lv_at hl 0 rfl) ?_
      obtain rfl := Option.some.inj h
      exact W.iret hx hb hr (fun t ht hW => ⟨_, rfl, rfl, ht⟩) cf_pnil dJArraysSupport_newLength_III_20 hlocks
theorem mJArraysSupport_newLength_III (l : Launch) (v0 : Int32) (v1 : Int32) (v2 : Int32) (r : Int32) (h : fJArraysSupport_newLength_III v0 v1 v2 = some r) : Met l yJArraysSupport_newLength_III (Cond.code yJArraysSupport_newLength_III cJArraysSupport_newLength_III 4 (Option.some Jvm.ClassFile.FieldType.int) :: cfB) ({ frames := 1, cells := 0, slots := 0, locals := 34 }) (fun v _ => v = ([.int v0, .int v1, .int v2] : List Value).toArray) (cf_Pi (fun x => x = r)) 0 0 (fun _ => False) := by
  refine cf_ofP (y := yJArraysSupport_newLength_III) (As := [.int v0, .int v1, .int v2]) (maxL := 4) (cf_Pi (fun x => x = r)) (by decide) (Nat.le_of_ble_eq_true rfl) ?_
  intro p e s m below meth c ls C hl
  exact bJArraysSupport_newLength_III_0 (l := l) C v0 v1 v2 r h hl
set_option maxHeartbeats 4000000 in
set_option maxRecDepth 100000 in
theorem bAS_newCapacity_0 {p : Program} {l : Launch} {e : Env} {s : State} {m : MethodId} {below : List Frame} {meth : Method} {c : Code} {A : Nat → Prop} {D : va_G} {K : Nat → ClassId} {h0 : Nat} {a0 : Nat → Nat} {AR : Array Value} (C : (dc_C p s m AR meth c cAS_newCapacity 6 (Option.some Jvm.ClassFile.FieldType.int) yAS_newCapacity ∧ cf_E D K A s s.heap ∧ ∀ q, s.heap.size ≤ q → A q)) (v1 : Int32) (o0 : cf_O) (r : Int32) (h : fAS_newCapacity_0 v1 o0 = some r) {H : Heap} {locs : List Loc} {ls : Array Slot} (hP : va_P D vwCl (wSB K h0 a0 o0) H) (hD : va_D A (wSB K h0 a0 o0)) (hS : va_S A s.heap H locs) (hl : lv_has ls 6 [(0, .ref h0), (1, .int v1)]) : W p l e ({ frames := 2, cells := 0, slots := 0, locals := 57 }) s m AR below meth c H locs 0 0 (MQ below (va_Qi (fun (x : Int32) (_ : Unit) => x = r) (fun (_ : Unit) t => cf_At D A (wSB K h0 a0 o0) t) A) AR s 0 0 A) (F0 m 0 ls []) := by
  obtain ⟨⟨hx, hb, hr, hts, hown, hlocks, hin, hml⟩, hE, hA⟩ := id C
  have hK := hE.k
  refine lv_aload_n hx hb dAS_newCapacity_0 rfl (lv_at hl 0 rfl) ?_
  refine va_get (D := D) (ci := 13) (v := .ref (a0 0)) (C := RSB) (T := TSB) (N := 4) hx hb hts inSB hown hK hP 0 rfl rfl 0 (by decide) (hts _ wv_453) (fun _ h9 => h9) rfl dAS_newCapacity_1 ?_
  obtain ⟨hn_1, h⟩ := op_n h
  refine va_alen (D := D) (v := o0.1 0) hx hb hK hP 1 2 rfl rfl (g_ofNat hn_1) dAS_newCapacity_4 ?_
  refine lv_topi (fun x_2 ex_2 => ?_)
  have h := op_ks ex_2 h
  refine lv_istore_n (lv' := [(2, .int x_2), (0, .ref h0), (1, .int v1)]) hx hb dAS_newCapacity_5 rfl hl (by decide) rfl (fun ls hl => ?_)
  refine lv_iload_n hx hb dAS_newCapacity_6 rfl (lv_at hl 2 rfl) ?_
  refine lv_aload_n hx hb dAS_newCapacity_7 rfl (lv_at hl 1 rfl) ?_
  refine va_get (D := D) (ci := 13) (v := .int (o0.1 1)) (C := RSB) (T := TSB) (N := 4) hx hb hts inSB hown hK hP 0 rfl rfl 1 (by decide) (hts _ wv_454) (fun _ h9 => h9) rfl dAS_newCapacity_8 ?_
  refine lv_ishl hx hb dAS_newCapacity_11 ?_
  refine lv_topi (fun x_3 ex_3 => ?_)
  have h := op_ks ex_3 h
  refine lv_istore_n (lv' := [(3, .int x_3), (2, .int x_2), (0, .ref h0), (1, .int v1)]) hx hb dAS_newCapacity_12 rfl hl (by decide) rfl (fun ls hl => ?_)
  refine lv_iload_n hx hb dAS_newCapacity_13 rfl (lv_at hl 0 rfl) ?_
  refine lv_iload_n hx hb dAS_newCapacity_14 rfl (lv_at hl 1 rfl) ?_
  refine lv_isub hx hb dAS_newCapacity_15 ?_
  refine lv_topi (fun x_4 ex_4 => ?_)
  have h := op_ks ex_4 h
  refine lv_istore (lv' := [(4, .int x_4), (3, .int x_3), (2, .int x_2), (0, .ref h0), (1, .int v1)]) hx hb dAS_newCapacity_16 hl (by decide) rfl (fun ls hl => ?_)
  refine lv_iload_n hx hb dAS_newCapacity_18 rfl (lv_at hl 2 rfl) ?_
  refine lv_iload hx hb dAS_newCapacity_19 (lv_at hl 0 rfl) ?_
  refine lv_iload_n hx hb dAS_newCapacity_21 rfl (lv_at hl 2 rfl) ?_
  refine lv_iconst (v := 2) hx hb dAS_newCapacity_22 (by decide) ?_
  refine lv_aload_n hx hb dAS_newCapacity_23 rfl (lv_at hl 3 rfl) ?_
  refine va_get (D := D) (ci := 13) (v := .int (o0.1 1)) (C := RSB) (T := TSB) (N := 4) hx hb hts inSB hown hK hP 0 rfl rfl 1 (by decide) (hts _ wv_454) (fun _ h9 => h9) rfl dAS_newCapacity_24 ?_
  refine lv_ishl hx hb dAS_newCapacity_27 ?_
  refine lv_topi (fun x_5 ex_5 => ?_)
  have h := op_ks ex_5 h
  refine lv_iadd hx hb dAS_newCapacity_28 ?_
  refine lv_topi (fun x_6 ex_6 => ?_)
  have h := op_ks ex_6 h
  obtain ⟨q_7, hq_7, h⟩ := op_b h
  refine cf_pcalli (va_runS (As := [.int x_2, .int x_4, .int x_6]) (rest := []) ⟨hx, hb, hml, hown, hts⟩ (mJArraysSupport_newLength_III l x_2 x_4 x_6 _ hq_7) (va_cwS 3 hts (cf_GS wv_1573 wv_1574 wv_189 wv_1575) rfl rfl rfl (by decide +kernel) ⟨Nat.le_of_ble_eq_true rfl, Nat.le_of_ble_eq_true rfl⟩) preEq rfl rfl hl.1 rfl (lv_room (Nat.le_of_ble_eq_true rfl)) dAS_newCapacity_29 ⟨Nat.le_of_ble_eq_true rfl, Nat.le_of_ble_eq_true rfl⟩) (fun r_8 hw_9 => ?_)
  subst r_8
  refine lv_istore (lv' := [(5, .int q_7), (4, .int x_4), (3, .int x_3), (2, .int x_2), (0, .ref h0), (1, .int v1)]) hx hb dAS_newCapacity_32 hl (by decide) rfl (fun ls hl => ?_)
  refine lv_iload hx hb dAS_newCapacity_34 (lv_at hl 0 rfl) ?_
  refine lv_ldc (v := 2147483647) hx hb hown (hts _ wv_1581) dAS_newCapacity_36 ?_
  refine lv_icmp_ne (tgt := 51) hx hb dAS_newCapacity_38 (by decide) (fun c_10 => ?_) (fun c_10 => ?_)
  · have h := op_f c_10 h
    refine lv_iload hx hb dAS_newCapacity_51 (lv_at hl 0 rfl) ?_
    refine lv_aload_n hx hb dAS_newCapacity_53 rfl (lv_at hl 4 rfl) ?_
    refine va_get (D := D) (ci := 13) (v := .int (o0.1 1)) (C := RSB) (T := TSB) (N := 4) hx hb hts inSB hown hK hP 0 rfl rfl 1 (by decide) (hts _ wv_454) (fun _ h9 => h9) rfl dAS_newCapacity_54 ?_
    refine lv_ishr hx hb dAS_newCapacity_57 ?_
    refine lv_topi (fun x_11 ex_11 => ?_)
    have h := op_ks ex_11 h
    obtain rfl := Option.some.inj h
    exact dc_iret hx hb hr hlocks rfl hP hD hS dAS_newCapacity_58
  · have h := op_t c_10 h
    cases h
set_option maxRecDepth 100000 in
theorem mAS_newCapacity (l : Launch) (D : va_G) (K : Nat → ClassId) (sz : Nat) (v1 : Int32) (h0 : Nat) (a0 : Nat → Nat) (o0 : cf_O) (r : Int32) (h : fAS_newCapacity v1 o0 = some r) : Met l yAS_newCapacity (Cond.code yAS_newCapacity cAS_newCapacity 6 (Option.some Jvm.ClassFile.FieldType.int) :: cfB) ({ frames := 2, cells := 0, slots := 0, locals := 57 }) (va_Pc [.ref h0, .int v1] (cf_Pre D K sz (wSB K h0 a0 o0))) (va_Qi (fun (x : Int32) (_ : Unit) => x = r) (fun (_ : Unit) t => cf_At D (va_A (wSB K h0 a0 o0) sz) (wSB K h0 a0 o0) t) (va_A (wSB K h0 a0 o0) sz)) 0 0 (va_A (wSB K h0 a0 o0) sz) := by
  refine cf_ofW (y := yAS_newCapacity) (As := [.ref h0, .int v1]) (WS := wSB K h0 a0 o0) (maxL := 6) (fun A => (va_Qi (fun (x : Int32) (_ : Unit) => x = r) (fun (_ : Unit) t => cf_At D A (wSB K h0 a0 o0) t) A)) (by decide) (Nat.le_of_ble_eq_true rfl) ?_
  intro p e s m below meth c A ls En hsz hA hP hD hE hS hl
  have C : (dc_C p s m (([.ref h0, .int v1] : List Value).toArray) meth c cAS_newCapacity 6 (Option.some Jvm.ClassFile.FieldType.int) yAS_newCapacity ∧ cf_E D K A s s.heap ∧ ∀ q, s.heap.size ≤ q → A q) := ⟨En, hE, hA⟩
  exact bAS_newCapacity_0 C v1 o0 r h hP hD hS hl
set_option maxRecDepth 100000 in
theorem nAS_ensureCapacityInternal_38 (o0 : cf_O) (r : cf_O) (h : fAS_ensureCapacityInternal_38 o0 = some r) : phSB o0 ≤ phSB r := by
  have hm : phSB o0 ≤ phSB o0 := Nat.le_refl _
  obtain rfl := Option.some.inj h
  exact hm
set_option maxRecDepth 100000 in
theorem nAS_ensureCapacityInternal_27 (s2 : Int32) (o0 : cf_O) (r : cf_O) (h : fAS_ensureCapacityInternal_27 s2 o0 = some r) : phSB o0 ≤ phSB r := by
  have hm : phSB o0 ≤ phSB o0 := Nat.le_refl _
  obtain ⟨x_1, ex_1, h⟩ := op_kx h
  obtain ⟨hc_2, h⟩ := op_n h
  obtain ⟨o_3, eo_3, h⟩ := op_kx h
  have hf_4 : phSB o_3 + (o0.1 0).toNatClampNeg = phSB o0 + x_1.toNatClampNeg := by rw [eo_3]; show (x_1.toNatClampNeg) + (o0.1 0).toNatClampNeg = ((o0.1 0).toNatClampNeg) + x_1.toNatClampNeg; omega
  have hc_5 := Nat.not_lt.mp (fun z => hc_2 ((Or.inr (Or.inr (Or.inl z)))))
  have hm : phSB o0 ≤ phSB o_3 := Nat.le_trans hm (by omega)
  exact Nat.le_trans hm (nAS_ensureCapacityInternal_38 _ _ h)
set_option maxRecDepth 100000 in
theorem nAS_ensureCapacityInternal_0 (v1 : Int32) (o0 : cf_O) (r : cf_O) (h : fAS_ensureCapacityInternal_0 v1 o0 = some r) : phSB o0 ≤ phSB r := by
  have hm : phSB o0 ≤ phSB o0 := Nat.le_refl _
  obtain ⟨hn_1, h⟩ := op_n h
  obtain ⟨x_2, ex_2, h⟩ := op_kx h
  obtain ⟨x_3, ex_3, h⟩ := op_kx h
  obtain ⟨x_4, ex_4, h⟩ := op_kx h
  rcases (Classical.em (x_4 ≤ (0 : Int32))) with c_5 | c_5
  · have h := op_t c_5 h
    exact Nat.le_trans hm (nAS_ensureCapacityInternal_38 _ _ h)
  · have h := op_f c_5 h
    obtain ⟨q_6, hq_6, h⟩ := op_b h
    exact Nat.le_trans hm (nAS_ensureCapacityInternal_27 _ _ _ h)
theorem nAS_ensureCapacityInternal (v1 : Int32) (o0 : cf_O) (r : cf_O) (h : fAS_ensureCapacityInternal v1 o0 = some r) : phSB o0 ≤ phSB r := nAS_ensureCapacityInternal_0  v1 o0 r h
set_option maxHeartbeats 4000000 in
set_option maxRecDepth 100000 in
theorem bAS_ensureCapacityInternal_38 {p : Program} {l : Launch} {e : Env} {s : State} {m : MethodId} {below : List Frame} {meth : Method} {c : Code} {A : Nat → Prop} {D : va_G} {K : Nat → ClassId} {h0 : Nat} {os : cf_O} {AR : Array Value} (C : (dc_C p s m AR meth c cAS_ensureCapacityInternal 3 (Option.none : Option Jvm.ClassFile.FieldType) yAS_ensureCapacityInternal ∧ cf_E D K A s s.heap ∧ ∀ q, s.heap.size ≤ q → A q)) (o0 : cf_O) (r : cf_O) (h : fAS_ensureCapacityInternal_38 o0 = some r) {a0 : Nat → Nat} {H : Heap} {locs : List Loc} {ls : Array Slot} (hg : phSB os ≤ phSB o0) (hP : va_P D vwCl (wSB K h0 a0 o0) H) (hD : va_D A (wSB K h0 a0 o0)) (hS : va_S A s.heap H locs) (hl : lv_has ls 3 []) : W p l e ({ frames := 3, cells := (gC (phSB os) (phSB r)), slots := (gS (phSB os) (phSB r)), locals := 102 }) s m AR below meth c H locs (gC (phSB os) (phSB o0)) (gS (phSB os) (phSB o0)) (MQ below (va_Qv (fun (_ : Nat → Nat) => True) (fun (u : Nat → Nat) t => cf_At D A (wSB K h0 u r) t) A) AR s (gC (phSB os) (phSB r)) (gS (phSB os) (phSB r)) A) (F0 m 38 ls []) := by
  obtain ⟨⟨hx, hb, hr, hts, hown, hlocks, hin, hml⟩, hE, hA⟩ := id C
  have hK := hE.k
  obtain rfl := Option.some.inj h
  exact dc_vretG a0 hx hb hr hlocks hP hD hS dAS_ensureCapacityInternal_38
set_option maxHeartbeats 4000000 in
set_option maxRecDepth 100000 in
theorem bAS_ensureCapacityInternal_27 {p : Program} {l : Launch} {e : Env} {s : State} {m : MethodId} {below : List Frame} {meth : Method} {c : Code} {A : Nat → Prop} {D : va_G} {K : Nat → ClassId} {h0 : Nat} {os : cf_O} {AR : Array Value} (C : (dc_C p s m AR meth c cAS_ensureCapacityInternal 3 (Option.none : Option Jvm.ClassFile.FieldType) yAS_ensureCapacityInternal ∧ cf_E D K A s s.heap ∧ ∀ q, s.heap.size ≤ q → A q)) (s2 : Int32) (o0 : cf_O) (r : cf_O) (h : fAS_ensureCapacityInternal_27 s2 o0 = some r) {a0 : Nat → Nat} {H : Heap} {locs : List Loc} {ls : Array Slot} (hg : phSB os ≤ phSB o0) (hP : va_P D vwCl (wSB K h0 a0 o0) H) (hD : va_D A (wSB K h0 a0 o0)) (hS : va_S A s.heap H locs) (hl : lv_has ls 3 [(0, .ref h0)]) : W p l e ({ frames := 3, cells := (gC (phSB os) (phSB r)), slots := (gS (phSB os) (phSB r)), locals := 102 }) s m AR below meth c H locs (gC (phSB os) (phSB o0)) (gS (phSB os) (phSB o0)) (MQ below (va_Qv (fun (_ : Nat → Nat) => True) (fun (u : Nat → Nat) t => cf_At D A (wSB K h0 u r) t) A) AR s (gC (phSB os) (phSB r)) (gS (phSB os) (phSB r)) A) (F0 m 27 ls [.int s2, .ref (a0 0), .ref h0]) := by
  obtain ⟨⟨hx, hb, hr, hts, hown, hlocks, hin, hml⟩, hE, hA⟩ := id C
  have hK := hE.k
  refine lv_aload_n hx hb dAS_ensureCapacityInternal_27 rfl (lv_at hl 0 rfl) ?_
  refine va_get (D := D) (ci := 13) (v := .int (o0.1 1)) (C := RSB) (T := TSB) (N := 4) hx hb hts inSB hown hK hP 0 rfl rfl 1 (by decide) (hts _ wv_454) (fun _ h9 => h9) rfl dAS_ensureCapacityInternal_28 ?_
  refine lv_ishl hx hb dAS_ensureCapacityInternal_31 ?_
  refine lv_topi (fun x_1 ex_1 => ?_)
  have h := op_ks ex_1 h
  obtain ⟨hc_2, h⟩ := op_n h
  obtain ⟨o_3, eo_3, h⟩ := op_kx h
  have hf_4 : phSB o_3 + (o0.1 0).toNatClampNeg = phSB o0 + x_1.toNatClampNeg := by rw [eo_3]; show (x_1.toNatClampNeg) + (o0.1 0).toNatClampNeg = ((o0.1 0).toNatClampNeg) + x_1.toNatClampNeg; omega
  have hc_5 := Nat.not_lt.mp (fun z => hc_2 ((Or.inr (Or.inr (Or.inl z)))))
  have hc_6 := Nat.not_lt.mp (fun z => hc_2 ((Or.inr (Or.inr (Or.inr (Or.inl z))))))
  have hgr_7 : phSB o_3 ≤ phSB r := nAS_ensureCapacityInternal_38 _ _ h
  refine cf_callr (wc := [((a0 0), .inl (K 2, (o0.1 0).toNatClampNeg, .inl (o0.2.1 0)))]) (wr := [(h0, .inr (13, [.ref (a0 0), .int (o0.1 1), .int (o0.1 2), .int (o0.1 3)]))]) (va_runS (As := [.ref (a0 0), .int x_1]) (rest := [.ref h0]) ⟨hx, hb, hml, hown, hts⟩ (mcopy_byte l D K _ (a0 0) (o0.1 0) x_1 (o0.2.1 0) (fun z => hc_2 (Or.inl z)) (fun z => hc_2 ((Or.inr (Or.inl z)))) hc_5 (Nat.not_lt.mp (fun z => hc_2 ((Or.inr (Or.inr (Or.inr (Or.inr (Or.inl z)))))))) (Classical.not_not.mp (fun z => hc_2 ((Or.inr (Or.inr (Or.inr (Or.inr (Or.inr (z)))))))))) (va_cwS 2 hts (cf_GS wv_1582 wv_1583 wv_181 wv_1584) rfl rfl rfl (by decide +kernel) ⟨Nat.le_of_ble_eq_true rfl, Nat.le_of_ble_eq_true rfl⟩) (cf_preS (wc := [((a0 0), .inl (K 2, (o0.1 0).toNatClampNeg, .inl (o0.2.1 0)))]) hE hP hD hS hA [1] rfl (by decide +kernel)) rfl rfl hl.1 rfl (lv_room (Nat.le_of_ble_eq_true rfl)) dAS_ensureCapacityInternal_32 ⟨Nat.le_trans (gC_new hg (show phSB o0 + 16 ≤ phSB o_3 by omega)) (gC_le hgr_7), Nat.le_trans (gS_new hg (show 2 * phSB o0 + x_1.toNatClampNeg ≤ 2 * phSB o_3 by omega)) (gS_le hgr_7)⟩) hP hD hS hA [1] [0] rfl rfl (by decide +kernel) (by decide +kernel) (fun _ q_8 H locs _ hP hD hS => ?_)
  refine W.widen (k := (gC (phSB os) (phSB o_3))) (n := (gS (phSB os) (phSB o_3))) (gC_new hg (show phSB o0 + 16 ≤ phSB o_3 by omega)) (gS_new hg (show 2 * phSB o0 + x_1.toNatClampNeg ≤ 2 * phSB o_3 by omega)) ?_
  refine va_put (D := D) (ci := 13) (v := .ref q_8) (ty := (.array .byte)) (C := RSB) (T := TSB) (N := 4) hx hb hts inSB tySB tyokSB nmSB hown hK hP hD hS 0 rfl rfl 0 (by decide) (hts _ wv_453) (fun _ h9 => h9) rfl (by decide +kernel) rfl rfl (Nat.le_of_ble_eq_true rfl) dAS_ensureCapacityInternal_35 (fun H locs hP hD hS => ?_)
  have hP : va_P D vwCl (wSB K h0 (fun j => bif Nat.beq j 0 then q_8 else a0 j) (gb o0 0 x_1)) H := hP.sub [0, 2] rfl
  have hD : va_D A (wSB K h0 (fun j => bif Nat.beq j 0 then q_8 else a0 j) (gb o0 0 x_1)) := hD.sub [0, 2] (by decide +kernel) rfl
  obtain ⟨a0_9, ea0_9⟩ : ∃ a9 : Nat → Nat, a9 = (fun j => bif Nat.beq j 0 then q_8 else a0 j) := ⟨_, rfl⟩
  rw [← ea0_9, ← eo_3] at hP hD
  have hg : phSB os ≤ phSB o_3 := by omega
  exact bAS_ensureCapacityInternal_38 C _ _ h hg hP hD hS (lv_sub hl [] rfl)
set_option maxHeartbeats 4000000 in
set_option maxRecDepth 100000 in
theorem bAS_ensureCapacityInternal_0 {p : Program} {l : Launch} {e : Env} {s : State} {m : MethodId} {below : List Frame} {meth : Method} {c : Code} {A : Nat → Prop} {D : va_G} {K : Nat → ClassId} {h0 : Nat} {os : cf_O} {AR : Array Value} (C : (dc_C p s m AR meth c cAS_ensureCapacityInternal 3 (Option.none : Option Jvm.ClassFile.FieldType) yAS_ensureCapacityInternal ∧ cf_E D K A s s.heap ∧ ∀ q, s.heap.size ≤ q → A q)) (v1 : Int32) (o0 : cf_O) (r : cf_O) (h : fAS_ensureCapacityInternal_0 v1 o0 = some r) {a0 : Nat → Nat} {H : Heap} {locs : List Loc} {ls : Array Slot} (hg : phSB os ≤ phSB o0) (hP : va_P D vwCl (wSB K h0 a0 o0) H) (hD : va_D A (wSB K h0 a0 o0)) (hS : va_S A s.heap H locs) (hl : lv_has ls 3 [(0, .ref h0), (1, .int v1)]) : W p l e ({ frames := 3, cells := (gC (phSB os) (phSB r)), slots := (gS (phSB os) (phSB r)), locals := 102 }) s m AR below meth c H locs (gC (phSB os) (phSB o0)) (gS (phSB os) (phSB o0)) (MQ below (va_Qv (fun (_ : Nat → Nat) => True) (fun (u : Nat → Nat) t => cf_At D A (wSB K h0 u r) t) A) AR s (gC (phSB os) (phSB r)) (gS (phSB os) (phSB r)) A) (F0 m 0 ls []) := by
  obtain ⟨⟨hx, hb, hr, hts, hown, hlocks, hin, hml⟩, hE, hA⟩ := id C
  have hK := hE.k
  refine lv_aload_n hx hb dAS_ensureCapacityInternal_0 rfl (lv_at hl 0 rfl) ?_
  refine va_get (D := D) (ci := 13) (v := .ref (a0 0)) (C := RSB) (T := TSB) (N := 4) hx hb hts inSB hown hK hP 0 rfl rfl 0 (by decide) (hts _ wv_453) (fun _ h9 => h9) rfl dAS_ensureCapacityInternal_1 ?_
  obtain ⟨hn_1, h⟩ := op_n h
  refine va_alen (D := D) (v := o0.1 0) hx hb hK hP 1 2 rfl rfl (g_ofNat hn_1) dAS_ensureCapacityInternal_4 ?_
  refine lv_topi (fun x_2 ex_2 => ?_)
  have h := op_ks ex_2 h
  refine lv_aload_n hx hb dAS_ensureCapacityInternal_5 rfl (lv_at hl 0 rfl) ?_
  refine va_get (D := D) (ci := 13) (v := .int (o0.1 1)) (C := RSB) (T := TSB) (N := 4) hx hb hts inSB hown hK hP 0 rfl rfl 1 (by decide) (hts _ wv_454) (fun _ h9 => h9) rfl dAS_ensureCapacityInternal_6 ?_
  refine lv_ishr hx hb dAS_ensureCapacityInternal_9 ?_
  refine lv_topi (fun x_3 ex_3 => ?_)
  have h := op_ks ex_3 h
  refine lv_istore_n (lv' := [(2, .int x_3), (0, .ref h0), (1, .int v1)]) hx hb dAS_ensureCapacityInternal_10 rfl hl (by decide) rfl (fun ls hl => ?_)
  refine lv_iload_n hx hb dAS_ensureCapacityInternal_11 rfl (lv_at hl 2 rfl) ?_
  refine lv_iload_n hx hb dAS_ensureCapacityInternal_12 rfl (lv_at hl 0 rfl) ?_
  refine lv_isub hx hb dAS_ensureCapacityInternal_13 ?_
  refine lv_topi (fun x_4 ex_4 => ?_)
  have h := op_ks ex_4 h
  refine lv_if_le (tgt := 38) hx hb dAS_ensureCapacityInternal_14 (by decide) (fun c_5 => ?_) (fun c_5 => ?_)
  · have h := op_t c_5 h
    exact bAS_ensureCapacityInternal_38 C _ _ h hg hP hD hS (lv_sub hl [] rfl)
  · have h := op_f c_5 h
    refine lv_aload_n hx hb dAS_ensureCapacityInternal_17 rfl (lv_at hl 1 rfl) ?_
    refine lv_aload_n hx hb dAS_ensureCapacityInternal_18 rfl (lv_at hl 1 rfl) ?_
    refine va_get (D := D) (ci := 13) (v := .ref (a0 0)) (C := RSB) (T := TSB) (N := 4) hx hb hts inSB hown hK hP 0 rfl rfl 0 (by decide) (hts _ wv_453) (fun _ h9 => h9) rfl dAS_ensureCapacityInternal_19 ?_
    refine lv_aload_n hx hb dAS_ensureCapacityInternal_22 rfl (lv_at hl 1 rfl) ?_
    refine lv_iload_n hx hb dAS_ensureCapacityInternal_23 rfl (lv_at hl 2 rfl) ?_
    obtain ⟨q_6, hq_6, h⟩ := op_b h
    have hgr_7 : phSB o0 ≤ phSB r := nAS_ensureCapacityInternal_27 _ _ _ h
    refine dc_calli (va_runU (As := [.int v1]) (rest := [.ref (a0 0), .ref h0]) ⟨hx, hb, hml, hown, hts⟩ (mAS_newCapacity l D K _ v1 h0 a0 o0 _ hq_6) (cf_cwU (C := "java/lang/StringBuilder") 1 hts (cf_G1 wv_1572) rfl rfl rfl (hts _ wv_166) (hts _ wv_1569) (hts _ wv_2791) (va_Nw.use rfl (hE.n 30 rfl)) (hts _ wv_1571) (by decide +kernel) ⟨Nat.le_of_ble_eq_true rfl, Nat.le_of_ble_eq_true rfl⟩) (dc_preV hE hP hD hS hA rfl 0 rfl) rfl rfl hl.1 rfl (lv_room (Nat.le_of_ble_eq_true rfl)) dAS_ensureCapacityInternal_24 ⟨gC_le hgr_7, gS_le hgr_7⟩) hP hD hS hA (fun r_9 H locs hw_10 hP hD hS => ?_)
    subst r_9
    refine W.widen (k := (gC (phSB os) (phSB o0))) (n := (gS (phSB os) (phSB o0))) (Nat.le_refl _) (Nat.le_refl _) ?_
    exact bAS_ensureCapacityInternal_27 C _ _ _ h hg hP hD hS (lv_sub hl [1] rfl)
set_option maxRecDepth 100000 in
theorem mAS_ensureCapacityInternal (l : Launch) (D : va_G) (K : Nat → ClassId) (sz : Nat) (v1 : Int32) (h0 : Nat) (a0 : Nat → Nat) (o0 : cf_O) (r : cf_O) (h : fAS_ensureCapacityInternal v1 o0 = some r) : Met l yAS_ensureCapacityInternal (Cond.code yAS_ensureCapacityInternal cAS_ensureCapacityInternal 3 (Option.none : Option Jvm.ClassFile.FieldType) :: cfB) ({ frames := 3, cells := (gC (phSB o0) (phSB r)), slots := (gS (phSB o0) (phSB r)), locals := 102 }) (va_Pc [.ref h0, .int v1] (cf_Pre D K sz (wSB K h0 a0 o0))) (va_Qv (fun (_ : Nat → Nat) => True) (fun (u : Nat → Nat) t => cf_At D (va_A (wSB K h0 a0 o0) sz) (wSB K h0 u r) t) (va_A (wSB K h0 a0 o0) sz)) (gC (phSB o0) (phSB r)) (gS (phSB o0) (phSB r)) (va_A (wSB K h0 a0 o0) sz) := by
  refine cf_ofW (y := yAS_ensureCapacityInternal) (As := [.ref h0, .int v1]) (WS := wSB K h0 a0 o0) (maxL := 3) (fun A => (va_Qv (fun (_ : Nat → Nat) => True) (fun (u : Nat → Nat) t => cf_At D A (wSB K h0 u r) t) A)) (by decide) (Nat.le_of_ble_eq_true rfl) ?_
  intro p e s m below meth c A ls En hsz hA hP hD hE hS hl
  have C : (dc_C p s m (([.ref h0, .int v1] : List Value).toArray) meth c cAS_ensureCapacityInternal 3 (Option.none : Option Jvm.ClassFile.FieldType) yAS_ensureCapacityInternal ∧ cf_E D K A s s.heap ∧ ∀ q, s.heap.size ≤ q → A q) := ⟨En, hE, hA⟩
  refine W.widen (k := gC (phSB o0) (phSB o0)) (n := gS (phSB o0) (phSB o0)) (Nat.zero_le _) (Nat.zero_le _) ?_
  exact bAS_ensureCapacityInternal_0 C v1 o0 r h (Nat.le_refl _) hP hD hS hl
set_option maxHeartbeats 4000000 in
set_option maxRecDepth 100000 in
theorem bAS_isLatin1_18 {p : Program} {l : Launch} {e : Env} {s : State} {m : MethodId} {below : List Frame} {meth : Method} {c : Code} {A : Nat → Prop} {D : va_G} {K : Nat → ClassId} {h0 : Nat} {a0 : Nat → Nat} {AR : Array Value} (C : (dc_C p s m AR meth c cAS_isLatin1 1 (Option.some Jvm.ClassFile.FieldType.boolean) yAS_isLatin1 ∧ cf_E D K A s s.heap ∧ ∀ q, s.heap.size ≤ q → A q)) (s0 : Int32) (o0 : cf_O) (r : Int32) (h : fAS_isLatin1_18 s0 o0 = some r) {H : Heap} {locs : List Loc} {ls : Array Slot} (hP : va_P D vwCl (wSB K h0 a0 o0) H) (hD : va_D A (wSB K h0 a0 o0)) (hS : va_S A s.heap H locs) (hl : lv_has ls 1 []) : W p l e ({ frames := 0, cells := 0, slots := 0, locals := 0 }) s m AR below meth c H locs 0 0 (MQ below (va_Qi (fun (x : Int32) (_ : Unit) => x = r) (fun (_ : Unit) t => cf_At D A (wSB K h0 a0 o0) t) A) AR s 0 0 A) (F0 m 18 ls [.int s0]) := by
  obtain ⟨⟨hx, hb, hr, hts, hown, hlocks, hin, hml⟩, hE, hA⟩ := id C
  have hK := hE.k
  obtain ⟨hz_1, h⟩ := op_w h
  obtain rfl := Option.some.inj h
  exact dc_zret hx hb hr (op_z hz_1) hlocks rfl hP hD hS dAS_isLatin1_18
set_option maxHeartbeats 4000000 in
set_option maxRecDepth 100000 in
theorem bAS_isLatin1_17 {p : Program} {l : Launch} {e : Env} {s : State} {m : MethodId} {below : List Frame} {meth : Method} {c : Code} {A : Nat → Prop} {D : va_G} {K : Nat → ClassId} {h0 : Nat} {a0 : Nat → Nat} {AR : Array Value} (C : (dc_C p s m AR meth c cAS_isLatin1 1 (Option.some Jvm.ClassFile.FieldType.boolean) yAS_isLatin1 ∧ cf_E D K A s s.heap ∧ ∀ q, s.heap.size ≤ q → A q)) (o0 : cf_O) (r : Int32) (h : fAS_isLatin1_17 o0 = some r) {H : Heap} {locs : List Loc} {ls : Array Slot} (hP : va_P D vwCl (wSB K h0 a0 o0) H) (hD : va_D A (wSB K h0 a0 o0)) (hS : va_S A s.heap H locs) (hl : lv_has ls 1 []) : W p l e ({ frames := 0, cells := 0, slots := 0, locals := 0 }) s m AR below meth c H locs 0 0 (MQ below (va_Qi (fun (x : Int32) (_ : Unit) => x = r) (fun (_ : Unit) t => cf_At D A (wSB K h0 a0 o0) t) A) AR s 0 0 A) (F0 m 17 ls []) := by
  obtain ⟨⟨hx, hb, hr, hts, hown, hlocks, hin, hml⟩, hE, hA⟩ := id C
  have hK := hE.k
  refine lv_iconst (v := 0) hx hb dAS_isLatin1_17 (by decide) ?_
  exact bAS_isLatin1_18 C _ _ _ h hP hD hS (lv_sub hl [] rfl)
set_option maxHeartbeats 4000000 in
set_option maxRecDepth 100000 in
theorem bAS_isLatin1_0 {p : Program} {l : Launch} {e : Env} {s : State} {m : MethodId} {below : List Frame} {meth : Method} {c : Code} {A : Nat → Prop} {D : va_G} {K : Nat → ClassId} {h0 : Nat} {a0 : Nat → Nat} {AR : Array Value} (C : (dc_C p s m AR meth c cAS_isLatin1 1 (Option.some Jvm.ClassFile.FieldType.boolean) yAS_isLatin1 ∧ cf_E D K A s s.heap ∧ ∀ q, s.heap.size ≤ q → A q)) (o0 : cf_O) (r : Int32) (h : fAS_isLatin1_0 o0 = some r) {H : Heap} {locs : List Loc} {ls : Array Slot} (hP : va_P D vwCl (wSB K h0 a0 o0) H) (hD : va_D A (wSB K h0 a0 o0)) (hS : va_S A s.heap H locs) (hl : lv_has ls 1 [(0, .ref h0)]) : W p l e ({ frames := 0, cells := 0, slots := 0, locals := 0 }) s m AR below meth c H locs 0 0 (MQ below (va_Qi (fun (x : Int32) (_ : Unit) => x = r) (fun (_ : Unit) t => cf_At D A (wSB K h0 a0 o0) t) A) AR s 0 0 A) (F0 m 0 ls []) := by
  obtain ⟨⟨hx, hb, hr, hts, hown, hlocks, hin, hml⟩, hE, hA⟩ := id C
  have hK := hE.k
  refine va_gets hx hb hE.2.2.2.2.2.2.1 hS hown (hts _ wv_444) (fun _ h9 => h9) dAS_isLatin1_0 ?_
  refine lv_if_eq (tgt := 17) hx hb dAS_isLatin1_3 (by decide) (fun c_1 => absurd c_1 (by decide)) (fun _ => ?_)
  refine lv_aload_n hx hb dAS_isLatin1_6 rfl (lv_at hl 0 rfl) ?_
  refine va_get (D := D) (ci := 13) (v := .int (o0.1 1)) (C := RSB) (T := TSB) (N := 4) hx hb hts inSB hown hK hP 0 rfl rfl 1 (by decide) (hts _ wv_454) (fun _ h9 => h9) rfl dAS_isLatin1_7 ?_
  refine lv_if_ne (tgt := 17) hx hb dAS_isLatin1_10 (by decide) (fun c_2 => ?_) (fun c_2 => ?_)
  · have h := op_f c_2 h
    exact bAS_isLatin1_17 C _ _ h hP hD hS (lv_sub hl [] rfl)
  · have h := op_t c_2 h
    refine lv_iconst (v := 1) hx hb dAS_isLatin1_13 (by decide) ?_
    refine lv_goto (tgt := 18) hx hb dAS_isLatin1_14 (by decide) ?_
    exact bAS_isLatin1_18 C _ _ _ h hP hD hS (lv_sub hl [] rfl)
set_option maxRecDepth 100000 in
theorem mAS_isLatin1 (l : Launch) (D : va_G) (K : Nat → ClassId) (sz : Nat) (h0 : Nat) (a0 : Nat → Nat) (o0 : cf_O) (r : Int32) (h : fAS_isLatin1 o0 = some r) : Met l yAS_isLatin1 (Cond.code yAS_isLatin1 cAS_isLatin1 1 (Option.some Jvm.ClassFile.FieldType.boolean) :: cfB) ({ frames := 0, cells := 0, slots := 0, locals := 0 }) (va_Pc [.ref h0] (cf_Pre D K sz (wSB K h0 a0 o0))) (va_Qi (fun (x : Int32) (_ : Unit) => x = r) (fun (_ : Unit) t => cf_At D (va_A (wSB K h0 a0 o0) sz) (wSB K h0 a0 o0) t) (va_A (wSB K h0 a0 o0) sz)) 0 0 (va_A (wSB K h0 a0 o0) sz) := by
  refine cf_ofW (y := yAS_isLatin1) (As := [.ref h0]) (WS := wSB K h0 a0 o0) (maxL := 1) (fun A => (va_Qi (fun (x : Int32) (_ : Unit) => x = r) (fun (_ : Unit) t => cf_At D A (wSB K h0 a0 o0) t) A)) (by decide) (Nat.le_of_ble_eq_true rfl) ?_
  intro p e s m below meth c A ls En hsz hA hP hD hE hS hl
  have C : (dc_C p s m (([.ref h0] : List Value).toArray) meth c cAS_isLatin1 1 (Option.some Jvm.ClassFile.FieldType.boolean) yAS_isLatin1 ∧ cf_E D K A s s.heap ∧ ∀ q, s.heap.size ≤ q → A q) := ⟨En, hE, hA⟩
  exact bAS_isLatin1_0 C o0 r h hP hD hS hl
set_option maxRecDepth 100000 in
theorem nAS_setLength_76 (v1 : Int32) (o0 : cf_O) (r : cf_O) (h : fAS_setLength_76 v1 o0 = some r) : phSB o0 ≤ phSB r := by
  have hm : phSB o0 ≤ phSB o0 := Nat.le_refl _
  obtain ⟨o_1, eo_1, h⟩ := op_kx h
  have hm : phSB o0 ≤ phSB o_1 := by rw [eo_1]; exact hm
  obtain rfl := Option.some.inj h
  exact hm
set_option maxRecDepth 100000 in
theorem nAS_setLength_30 (v1 : Int32) (s0 : Int32) (o0 : cf_O) (r : cf_O) (h : fAS_setLength_30 v1 s0 o0 = some r) : phSB o0 ≤ phSB r := by
  have hm : phSB o0 ≤ phSB o0 := Nat.le_refl _
  rcases (Classical.em (s0 = (0 : Int32))) with c_1 | c_1
  · have h := op_t c_1 h
    cases h
  · have h := op_f c_1 h
    cases h
set_option maxRecDepth 100000 in
theorem nAS_setLength_18 (v1 : Int32) (o0 : cf_O) (r : cf_O) (h : fAS_setLength_18 v1 o0 = some r) : phSB o0 ≤ phSB r := by
  have hm : phSB o0 ≤ phSB o0 := Nat.le_refl _
  rcases (Classical.em (v1 ≤ (o0.1 3))) with c_1 | c_1
  · have h := op_t c_1 h
    rcases (Classical.em ((o0.1 3) ≤ v1)) with c_2 | c_2
    · have h := op_t c_2 h
      exact Nat.le_trans hm (nAS_setLength_76 _ _ _ h)
    · have h := op_f c_2 h
      obtain ⟨o_3, eo_3, h⟩ := op_kx h
      have hm : phSB o0 ≤ phSB o_3 := by rw [eo_3]; exact hm
      exact Nat.le_trans hm (nAS_setLength_76 _ _ _ h)
  · have h := op_f c_1 h
    obtain ⟨q_5, hq_5, h⟩ := op_b h
    exact Nat.le_trans hm (nAS_setLength_30 _ _ _ _ h)
set_option maxRecDepth 100000 in
theorem nAS_setLength_0 (v1 : Int32) (o0 : cf_O) (r : cf_O) (h : fAS_setLength_0 v1 o0 = some r) : phSB o0 ≤ phSB r := by
  have hm : phSB o0 ≤ phSB o0 := Nat.le_refl _
  rcases (Classical.em ((0 : Int32) ≤ v1)) with c_1 | c_1
  · have h := op_t c_1 h
    obtain ⟨q_2, hq_2, h⟩ := op_b h
    have hm : phSB o0 ≤ phSB q_2 := Nat.le_trans hm (nAS_ensureCapacityInternal _ _ _ hq_2)
    exact Nat.le_trans hm (nAS_setLength_18 _ _ _ h)
  · have h := op_f c_1 h
    cases h
theorem nAS_setLength (v1 : Int32) (o0 : cf_O) (r : cf_O) (h : fAS_setLength v1 o0 = some r) : phSB o0 ≤ phSB r := nAS_setLength_0  v1 o0 r h
set_option maxHeartbeats 4000000 in
set_option maxRecDepth 100000 in
theorem bAS_setLength_76 {p : Program} {l : Launch} {e : Env} {s : State} {m : MethodId} {below : List Frame} {meth : Method} {c : Code} {A : Nat → Prop} {D : va_G} {K : Nat → ClassId} {h0 : Nat} {os : cf_O} {AR : Array Value} (C : (dc_C p s m AR meth c cAS_setLength 2 (Option.none : Option Jvm.ClassFile.FieldType) yAS_setLength ∧ cf_E D K A s s.heap ∧ ∀ q, s.heap.size ≤ q → A q)) (v1 : Int32) (o0 : cf_O) (r : cf_O) (h : fAS_setLength_76 v1 o0 = some r) {a0 : Nat → Nat} {H : Heap} {locs : List Loc} {ls : Array Slot} (hg : phSB os ≤ phSB o0) (hP : va_P D vwCl (wSB K h0 a0 o0) H) (hD : va_D A (wSB K h0 a0 o0)) (hS : va_S A s.heap H locs) (hl : lv_has ls 2 [(0, .ref h0), (1, .int v1)]) : W p l e ({ frames := 4, cells := (gC (phSB os) (phSB r)), slots := (gS (phSB os) (phSB r)), locals := 124 }) s m AR below meth c H locs (gC (phSB os) (phSB o0)) (gS (phSB os) (phSB o0)) (MQ below (va_Qv (fun (_ : Nat → Nat) => True) (fun (u : Nat → Nat) t => cf_At D A (wSB K h0 u r) t) A) AR s (gC (phSB os) (phSB r)) (gS (phSB os) (phSB r)) A) (F0 m 76 ls []) := by
  obtain ⟨⟨hx, hb, hr, hts, hown, hlocks, hin, hml⟩, hE, hA⟩ := id C
  have hK := hE.k
  refine lv_aload_n hx hb dAS_setLength_76 rfl (lv_at hl 0 rfl) ?_
  refine lv_iload_n hx hb dAS_setLength_77 rfl (lv_at hl 1 rfl) ?_
  refine va_put (D := D) (ci := 13) (v := .int v1) (ty := .int) (C := RSB) (T := TSB) (N := 4) hx hb hts inSB tySB tyokSB nmSB hown hK hP hD hS 0 rfl rfl 3 (by decide) (hts _ wv_457) (fun _ h9 => h9) rfl (by decide +kernel) rfl rfl (Nat.le_of_ble_eq_true rfl) dAS_setLength_78 (fun H locs hP hD hS => ?_)
  have hP : va_P D vwCl (wSB K h0 a0 (fp o0 3 v1)) H := hP
  have hD : va_D A (wSB K h0 a0 (fp o0 3 v1)) := hD
  obtain ⟨o_1, eo_1, h⟩ := op_kx h
  rw [← eo_1] at hP hD
  have hf_2 : phSB o_1 = phSB o0 := by rw [eo_1]; rfl
  refine W.widen (k := (gC (phSB os) (phSB o_1))) (n := (gS (phSB os) (phSB o_1))) (by rw [hf_2]; exact Nat.le_refl _) (by rw [hf_2]; exact Nat.le_refl _) ?_
  have hg : phSB os ≤ phSB o_1 := by rw [hf_2]; exact hg
  obtain rfl := Option.some.inj h
  exact dc_vretG a0 hx hb hr hlocks hP hD hS dAS_setLength_81
set_option maxHeartbeats 4000000 in
set_option maxRecDepth 100000 in
theorem bAS_setLength_30 {p : Program} {l : Launch} {e : Env} {s : State} {m : MethodId} {below : List Frame} {meth : Method} {c : Code} {A : Nat → Prop} {D : va_G} {K : Nat → ClassId} {h0 : Nat} {os : cf_O} {AR : Array Value} (C : (dc_C p s m AR meth c cAS_setLength 2 (Option.none : Option Jvm.ClassFile.FieldType) yAS_setLength ∧ cf_E D K A s s.heap ∧ ∀ q, s.heap.size ≤ q → A q)) (v1 : Int32) (s0 : Int32) (o0 : cf_O) (r : cf_O) (h : fAS_setLength_30 v1 s0 o0 = some r) {a0 : Nat → Nat} {H : Heap} {locs : List Loc} {ls : Array Slot} (hg : phSB os ≤ phSB o0) (hP : va_P D vwCl (wSB K h0 a0 o0) H) (hD : va_D A (wSB K h0 a0 o0)) (hS : va_S A s.heap H locs) (hl : lv_has ls 2 [(0, .ref h0), (1, .int v1)]) : W p l e ({ frames := 4, cells := (gC (phSB os) (phSB r)), slots := (gS (phSB os) (phSB r)), locals := 124 }) s m AR below meth c H locs (gC (phSB os) (phSB o0)) (gS (phSB os) (phSB o0)) (MQ below (va_Qv (fun (_ : Nat → Nat) => True) (fun (u : Nat → Nat) t => cf_At D A (wSB K h0 u r) t) A) AR s (gC (phSB os) (phSB r)) (gS (phSB os) (phSB r)) A) (F0 m 30 ls [.int s0]) := by
  obtain ⟨⟨hx, hb, hr, hts, hown, hlocks, hin, hml⟩, hE, hA⟩ := id C
  have hK := hE.k
  refine lv_if_eq (tgt := 48) hx hb dAS_setLength_30 (by decide) (fun c_1 => ?_) (fun c_1 => ?_)
  · have h := op_t c_1 h
    refine lv_aload_n hx hb dAS_setLength_48 rfl (lv_at hl 0 rfl) ?_
    refine va_get (D := D) (ci := 13) (v := .ref (a0 0)) (C := RSB) (T := TSB) (N := 4) hx hb hts inSB hown hK hP 0 rfl rfl 0 (by decide) (hts _ wv_453) (fun _ h9 => h9) rfl dAS_setLength_49 ?_
    refine lv_aload_n hx hb dAS_setLength_52 rfl (lv_at hl 0 rfl) ?_
    refine va_get (D := D) (ci := 13) (v := .int (o0.1 3)) (C := RSB) (T := TSB) (N := 4) hx hb hts inSB hown hK hP 0 rfl rfl 3 (by decide) (hts _ wv_457) (fun _ h9 => h9) rfl dAS_setLength_53 ?_
    refine lv_iload_n hx hb dAS_setLength_56 rfl (lv_at hl 1 rfl) ?_
    cases h
  · have h := op_f c_1 h
    refine lv_aload_n hx hb dAS_setLength_33 rfl (lv_at hl 0 rfl) ?_
    refine va_get (D := D) (ci := 13) (v := .ref (a0 0)) (C := RSB) (T := TSB) (N := 4) hx hb hts inSB hown hK hP 0 rfl rfl 0 (by decide) (hts _ wv_453) (fun _ h9 => h9) rfl dAS_setLength_34 ?_
    refine lv_aload_n hx hb dAS_setLength_37 rfl (lv_at hl 0 rfl) ?_
    refine va_get (D := D) (ci := 13) (v := .int (o0.1 3)) (C := RSB) (T := TSB) (N := 4) hx hb hts inSB hown hK hP 0 rfl rfl 3 (by decide) (hts _ wv_457) (fun _ h9 => h9) rfl dAS_setLength_38 ?_
    refine lv_iload_n hx hb dAS_setLength_41 rfl (lv_at hl 1 rfl) ?_
    cases h
set_option maxHeartbeats 4000000 in
set_option maxRecDepth 100000 in
theorem bAS_setLength_18 {p : Program} {l : Launch} {e : Env} {s : State} {m : MethodId} {below : List Frame} {meth : Method} {c : Code} {A : Nat → Prop} {D : va_G} {K : Nat → ClassId} {h0 : Nat} {os : cf_O} {AR : Array Value} (C : (dc_C p s m AR meth c cAS_setLength 2 (Option.none : Option Jvm.ClassFile.FieldType) yAS_setLength ∧ cf_E D K A s s.heap ∧ ∀ q, s.heap.size ≤ q → A q)) (v1 : Int32) (o0 : cf_O) (r : cf_O) (h : fAS_setLength_18 v1 o0 = some r) {a0 : Nat → Nat} {H : Heap} {locs : List Loc} {ls : Array Slot} (hg : phSB os ≤ phSB o0) (hP : va_P D vwCl (wSB K h0 a0 o0) H) (hD : va_D A (wSB K h0 a0 o0)) (hS : va_S A s.heap H locs) (hl : lv_has ls 2 [(0, .ref h0), (1, .int v1)]) : W p l e ({ frames := 4, cells := (gC (phSB os) (phSB r)), slots := (gS (phSB os) (phSB r)), locals := 124 }) s m AR below meth c H locs (gC (phSB os) (phSB o0)) (gS (phSB os) (phSB o0)) (MQ below (va_Qv (fun (_ : Nat → Nat) => True) (fun (u : Nat → Nat) t => cf_At D A (wSB K h0 u r) t) A) AR s (gC (phSB os) (phSB r)) (gS (phSB os) (phSB r)) A) (F0 m 18 ls []) := by
  obtain ⟨⟨hx, hb, hr, hts, hown, hlocks, hin, hml⟩, hE, hA⟩ := id C
  have hK := hE.k
  refine lv_aload_n hx hb dAS_setLength_18 rfl (lv_at hl 0 rfl) ?_
  refine va_get (D := D) (ci := 13) (v := .int (o0.1 3)) (C := RSB) (T := TSB) (N := 4) hx hb hts inSB hown hK hP 0 rfl rfl 3 (by decide) (hts _ wv_457) (fun _ h9 => h9) rfl dAS_setLength_19 ?_
  refine lv_iload_n hx hb dAS_setLength_22 rfl (lv_at hl 1 rfl) ?_
  refine lv_icmp_ge (tgt := 63) hx hb dAS_setLength_23 (by decide) (fun c_1 => ?_) (fun c_1 => ?_)
  · have h := op_t c_1 h
    refine lv_aload_n hx hb dAS_setLength_63 rfl (lv_at hl 0 rfl) ?_
    refine va_get (D := D) (ci := 13) (v := .int (o0.1 3)) (C := RSB) (T := TSB) (N := 4) hx hb hts inSB hown hK hP 0 rfl rfl 3 (by decide) (hts _ wv_457) (fun _ h9 => h9) rfl dAS_setLength_64 ?_
    refine lv_iload_n hx hb dAS_setLength_67 rfl (lv_at hl 1 rfl) ?_
    refine lv_icmp_le (tgt := 76) hx hb dAS_setLength_68 (by decide) (fun c_2 => ?_) (fun c_2 => ?_)
    · have h := op_t c_2 h
      exact bAS_setLength_76 C _ _ _ h hg hP hD hS (lv_sub hl [0, 1] rfl)
    · have h := op_f c_2 h
      refine lv_aload_n hx hb dAS_setLength_71 rfl (lv_at hl 0 rfl) ?_
      refine lv_iconst (v := 1) hx hb dAS_setLength_72 (by decide) ?_
      refine va_put (D := D) (ci := 13) (v := .int 1) (ty := .boolean) (C := RSB) (T := TSB) (N := 4) hx hb hts inSB tySB tyokSB nmSB hown hK hP hD hS 0 rfl rfl 2 (by decide) (hts _ wv_455) (fun _ h9 => h9) rfl (by decide +kernel) rfl rfl (Nat.le_of_ble_eq_true rfl) dAS_setLength_73 (fun H locs hP hD hS => ?_)
      have hP : va_P D vwCl (wSB K h0 a0 (fp o0 2 1)) H := hP
      have hD : va_D A (wSB K h0 a0 (fp o0 2 1)) := hD
      obtain ⟨o_3, eo_3, h⟩ := op_kx h
      rw [← eo_3] at hP hD
      have hf_4 : phSB o_3 = phSB o0 := by rw [eo_3]; rfl
      refine W.widen (k := (gC (phSB os) (phSB o_3))) (n := (gS (phSB os) (phSB o_3))) (by rw [hf_4]; exact Nat.le_refl _) (by rw [hf_4]; exact Nat.le_refl _) ?_
      have hg : phSB os ≤ phSB o_3 := by rw [hf_4]; exact hg
      exact bAS_setLength_76 C _ _ _ h hg hP hD hS (lv_sub hl [0, 1] rfl)
  · have h := op_f c_1 h
    refine lv_aload_n hx hb dAS_setLength_26 rfl (lv_at hl 0 rfl) ?_
    obtain ⟨q_5, hq_5, h⟩ := op_b h
    have hgr_6 : phSB o0 ≤ phSB r := nAS_setLength_30 _ _ _ _ h
    refine dc_calli (va_runU (As := []) (rest := []) ⟨hx, hb, hml, hown, hts⟩ (mAS_isLatin1 l D K _ h0 a0 o0 _ hq_5) (cf_cwU (C := "java/lang/StringBuilder") 0 hts (cf_G1 wv_1594) rfl rfl rfl (hts _ wv_166) (hts _ wv_1590) (hts _ wv_1592) (hts _ wv_1593) (hts _ wv_1591) (by decide +kernel) ⟨Nat.le_of_ble_eq_true rfl, Nat.le_of_ble_eq_true rfl⟩) (dc_preV hE hP hD hS hA rfl 0 rfl) rfl rfl hl.1 rfl (lv_room (Nat.le_of_ble_eq_true rfl)) dAS_setLength_27 ⟨gC_le hgr_6, gS_le hgr_6⟩) hP hD hS hA (fun r_8 H locs hw_9 hP hD hS => ?_)
    subst r_8
    refine W.widen (k := (gC (phSB os) (phSB o0))) (n := (gS (phSB os) (phSB o0))) (Nat.le_refl _) (Nat.le_refl _) ?_
    exact bAS_setLength_30 C _ _ _ _ h hg hP hD hS (lv_sub hl [0, 1] rfl)
set_option maxHeartbeats 4000000 in
set_option maxRecDepth 100000 in
theorem bAS_setLength_0 {p : Program} {l : Launch} {e : Env} {s : State} {m : MethodId} {below : List Frame} {meth : Method} {c : Code} {A : Nat → Prop} {D : va_G} {K : Nat → ClassId} {h0 : Nat} {os : cf_O} {AR : Array Value} (C : (dc_C p s m AR meth c cAS_setLength 2 (Option.none : Option Jvm.ClassFile.FieldType) yAS_setLength ∧ cf_E D K A s s.heap ∧ ∀ q, s.heap.size ≤ q → A q)) (v1 : Int32) (o0 : cf_O) (r : cf_O) (h : fAS_setLength_0 v1 o0 = some r) {a0 : Nat → Nat} {H : Heap} {locs : List Loc} {ls : Array Slot} (hg : phSB os ≤ phSB o0) (hP : va_P D vwCl (wSB K h0 a0 o0) H) (hD : va_D A (wSB K h0 a0 o0)) (hS : va_S A s.heap H locs) (hl : lv_has ls 2 [(0, .ref h0), (1, .int v1)]) : W p l e ({ frames := 4, cells := (gC (phSB os) (phSB r)), slots := (gS (phSB os) (phSB r)), locals := 124 }) s m AR below meth c H locs (gC (phSB os) (phSB o0)) (gS (phSB os) (phSB o0)) (MQ below (va_Qv (fun (_ : Nat → Nat) => True) (fun (u : Nat → Nat) t => cf_At D A (wSB K h0 u r) t) A) AR s (gC (phSB os) (phSB r)) (gS (phSB os) (phSB r)) A) (F0 m 0 ls []) := by
  obtain ⟨⟨hx, hb, hr, hts, hown, hlocks, hin, hml⟩, hE, hA⟩ := id C
  have hK := hE.k
  refine lv_iload_n hx hb dAS_setLength_0 rfl (lv_at hl 1 rfl) ?_
  refine lv_if_ge (tgt := 13) hx hb dAS_setLength_1 (by decide) (fun c_1 => ?_) (fun c_1 => ?_)
  · have h := op_t c_1 h
    refine lv_aload_n hx hb dAS_setLength_13 rfl (lv_at hl 0 rfl) ?_
    refine lv_iload_n hx hb dAS_setLength_14 rfl (lv_at hl 1 rfl) ?_
    obtain ⟨q_2, hq_2, h⟩ := op_b h
    have hgr_3 : phSB q_2 ≤ phSB r := nAS_setLength_18 _ _ _ h
    have hg2_4 : phSB o0 ≤ phSB q_2 := nAS_ensureCapacityInternal _ _ _ hq_2
    refine cf_callv (wc := wSB K h0 a0 o0) (wr := []) (va_runU (As := [.int v1]) (rest := []) ⟨hx, hb, hml, hown, hts⟩ (mAS_ensureCapacityInternal l D K _ v1 h0 a0 o0 _ hq_2) (cf_cwU (C := "java/lang/StringBuilder") 1 hts (cf_G1 wv_1568) rfl rfl rfl (hts _ wv_166) (hts _ wv_1565) (hts _ wv_2790) (va_Nw.use rfl (hE.n 29 rfl)) (hts _ wv_1567) (by decide +kernel) ⟨Nat.le_of_ble_eq_true rfl, Nat.le_of_ble_eq_true rfl⟩) (cf_preV (wc := wSB K h0 a0 o0) hE hP hD hS hA rfl 0 rfl [0, 1] rfl (by decide +kernel)) rfl rfl hl.1 rfl (lv_room (Nat.le_of_ble_eq_true rfl)) dAS_setLength_15 ⟨Nat.le_trans (gC_add hg hg2_4) (gC_le hgr_3), Nat.le_trans (gS_add hg hg2_4) (gS_le hgr_3)⟩) hP hD hS hA [0, 1] [] rfl rfl (by decide +kernel) (by decide +kernel) (fun a0_6 H locs hw_5 hP hD hS => ?_)
    have hP : va_P D vwCl (wSB K h0 a0_6 q_2) H := hP.sub [0, 1] rfl
    have hD : va_D A (wSB K h0 a0_6 q_2) := hD.sub [0, 1] (by decide +kernel) rfl
    refine W.widen (k := (gC (phSB os) (phSB q_2))) (n := (gS (phSB os) (phSB q_2))) (gC_add hg hg2_4) (gS_add hg hg2_4) ?_
    have hg : phSB os ≤ phSB q_2 := Nat.le_trans hg hg2_4
    exact bAS_setLength_18 C _ _ _ h hg hP hD hS (lv_sub hl [0, 1] rfl)
  · have h := op_f c_1 h
    cases h
set_option maxRecDepth 100000 in
theorem mAS_setLength (l : Launch) (D : va_G) (K : Nat → ClassId) (sz : Nat) (v1 : Int32) (h0 : Nat) (a0 : Nat → Nat) (o0 : cf_O) (r : cf_O) (h : fAS_setLength v1 o0 = some r) : Met l yAS_setLength (Cond.code yAS_setLength cAS_setLength 2 (Option.none : Option Jvm.ClassFile.FieldType) :: cfB) ({ frames := 4, cells := (gC (phSB o0) (phSB r)), slots := (gS (phSB o0) (phSB r)), locals := 124 }) (va_Pc [.ref h0, .int v1] (cf_Pre D K sz (wSB K h0 a0 o0))) (va_Qv (fun (_ : Nat → Nat) => True) (fun (u : Nat → Nat) t => cf_At D (va_A (wSB K h0 a0 o0) sz) (wSB K h0 u r) t) (va_A (wSB K h0 a0 o0) sz)) (gC (phSB o0) (phSB r)) (gS (phSB o0) (phSB r)) (va_A (wSB K h0 a0 o0) sz) := by
  refine cf_ofW (y := yAS_setLength) (As := [.ref h0, .int v1]) (WS := wSB K h0 a0 o0) (maxL := 2) (fun A => (va_Qv (fun (_ : Nat → Nat) => True) (fun (u : Nat → Nat) t => cf_At D A (wSB K h0 u r) t) A)) (by decide) (Nat.le_of_ble_eq_true rfl) ?_
  intro p e s m below meth c A ls En hsz hA hP hD hE hS hl
  have C : (dc_C p s m (([.ref h0, .int v1] : List Value).toArray) meth c cAS_setLength 2 (Option.none : Option Jvm.ClassFile.FieldType) yAS_setLength ∧ cf_E D K A s s.heap ∧ ∀ q, s.heap.size ≤ q → A q) := ⟨En, hE, hA⟩
  refine W.widen (k := gC (phSB o0) (phSB o0)) (n := gS (phSB o0) (phSB o0)) (Nat.zero_le _) (Nat.zero_le _) ?_
  exact bAS_setLength_0 C v1 o0 r h (Nat.le_refl _) hP hD hS hl
set_option maxRecDepth 100000 in
theorem nSB_setLength_5 (o0 : cf_O) (r : cf_O) (h : fSB_setLength_5 o0 = some r) : phSB o0 ≤ phSB r := by
  have hm : phSB o0 ≤ phSB o0 := Nat.le_refl _
  obtain rfl := Option.some.inj h
  exact hm
set_option maxRecDepth 100000 in
theorem nSB_setLength_0 (v1 : Int32) (o0 : cf_O) (r : cf_O) (h : fSB_setLength_0 v1 o0 = some r) : phSB o0 ≤ phSB r := by
  have hm : phSB o0 ≤ phSB o0 := Nat.le_refl _
  obtain ⟨q_1, hq_1, h⟩ := op_b h
  have hm : phSB o0 ≤ phSB q_1 := Nat.le_trans hm (nAS_setLength _ _ _ hq_1)
  exact Nat.le_trans hm (nSB_setLength_5 _ _ h)
theorem nSB_setLength (v1 : Int32) (o0 : cf_O) (r : cf_O) (h : fSB_setLength v1 o0 = some r) : phSB o0 ≤ phSB r := nSB_setLength_0  v1 o0 r h
set_option maxHeartbeats 4000000 in
set_option maxRecDepth 100000 in
theorem bSB_setLength_5 {p : Program} {l : Launch} {e : Env} {s : State} {m : MethodId} {below : List Frame} {meth : Method} {c : Code} {A : Nat → Prop} {D : va_G} {K : Nat → ClassId} {h0 : Nat} {os : cf_O} {AR : Array Value} (C : (dc_C p s m AR meth c cSB_setLength 2 (Option.none : Option Jvm.ClassFile.FieldType) ySB_setLength ∧ cf_E D K A s s.heap ∧ ∀ q, s.heap.size ≤ q → A q)) (o0 : cf_O) (r : cf_O) (h : fSB_setLength_5 o0 = some r) {a0 : Nat → Nat} {H : Heap} {locs : List Loc} {ls : Array Slot} (hg : phSB os ≤ phSB o0) (hP : va_P D vwCl (wSB K h0 a0 o0) H) (hD : va_D A (wSB K h0 a0 o0)) (hS : va_S A s.heap H locs) (hl : lv_has ls 2 []) : W p l e ({ frames := 5, cells := (gC (phSB os) (phSB r)), slots := (gS (phSB os) (phSB r)), locals := 145 }) s m AR below meth c H locs (gC (phSB os) (phSB o0)) (gS (phSB os) (phSB o0)) (MQ below (va_Qv (fun (_ : Nat → Nat) => True) (fun (u : Nat → Nat) t => cf_At D A (wSB K h0 u r) t) A) AR s (gC (phSB os) (phSB r)) (gS (phSB os) (phSB r)) A) (F0 m 5 ls []) := by
  obtain ⟨⟨hx, hb, hr, hts, hown, hlocks, hin, hml⟩, hE, hA⟩ := id C
  have hK := hE.k
  obtain rfl := Option.some.inj h
  exact dc_vretG a0 hx hb hr hlocks hP hD hS dSB_setLength_5
set_option maxHeartbeats 4000000 in
set_option maxRecDepth 100000 in
theorem bSB_setLength_0 {p : Program} {l : Launch} {e : Env} {s : State} {m : MethodId} {below : List Frame} {meth : Method} {c : Code} {A : Nat → Prop} {D : va_G} {K : Nat → ClassId} {h0 : Nat} {os : cf_O} {AR : Array Value} (C : (dc_C p s m AR meth c cSB_setLength 2 (Option.none : Option Jvm.ClassFile.FieldType) ySB_setLength ∧ cf_E D K A s s.heap ∧ ∀ q, s.heap.size ≤ q → A q)) (v1 : Int32) (o0 : cf_O) (r : cf_O) (h : fSB_setLength_0 v1 o0 = some r) {a0 : Nat → Nat} {H : Heap} {locs : List Loc} {ls : Array Slot} (hg : phSB os ≤ phSB o0) (hP : va_P D vwCl (wSB K h0 a0 o0) H) (hD : va_D A (wSB K h0 a0 o0)) (hS : va_S A s.heap H locs) (hl : lv_has ls 2 [(0, .ref h0), (1, .int v1)]) : W p l e ({ frames := 5, cells := (gC (phSB os) (phSB r)), slots := (gS (phSB os) (phSB r)), locals := 145 }) s m AR below meth c H locs (gC (phSB os) (phSB o0)) (gS (phSB os) (phSB o0)) (MQ below (va_Qv (fun (_ : Nat → Nat) => True) (fun (u : Nat → Nat) t => cf_At D A (wSB K h0 u r) t) A) AR s (gC (phSB os) (phSB r)) (gS (phSB os) (phSB r)) A) (F0 m 0 ls []) := by
  obtain ⟨⟨hx, hb, hr, hts, hown, hlocks, hin, hml⟩, hE, hA⟩ := id C
  have hK := hE.k
  refine lv_aload_n hx hb dSB_setLength_0 rfl (lv_at hl 0 rfl) ?_
  refine lv_iload_n hx hb dSB_setLength_1 rfl (lv_at hl 1 rfl) ?_
  obtain ⟨q_1, hq_1, h⟩ := op_b h
  have hgr_2 : phSB q_1 ≤ phSB r := nSB_setLength_5 _ _ h
  have hg2_3 : phSB o0 ≤ phSB q_1 := nAS_setLength _ _ _ hq_1
  refine cf_callv (wc := wSB K h0 a0 o0) (wr := []) (va_runSU (hK.1 13 _ rfl).2 (As := [.int v1]) (rest := []) ⟨hx, hb, hml, hown, hts⟩ (mAS_setLength l D K _ v1 h0 a0 o0 _ hq_1) (cf_cwSU 1 hts (cf_G1 wv_1545) rfl rfl rfl (hts _ wv_1543) (hts _ wv_2787) (hts _ wv_466) (hts _ wv_1544) (hts _ wv_166) (by decide +kernel) ⟨Nat.le_of_ble_eq_true rfl, Nat.le_of_ble_eq_true rfl⟩) (cf_preV (wc := wSB K h0 a0 o0) hE hP hD hS hA rfl 0 rfl [0, 1] rfl (by decide +kernel)) rfl rfl hl.1 rfl (lv_room (Nat.le_of_ble_eq_true rfl)) dSB_setLength_2 ⟨Nat.le_trans (gC_add hg hg2_3) (gC_le hgr_2), Nat.le_trans (gS_add hg hg2_3) (gS_le hgr_2)⟩) hP hD hS hA [0, 1] [] rfl rfl (by decide +kernel) (by decide +kernel) (fun a0_5 H locs hw_4 hP hD hS => ?_)
  have hP : va_P D vwCl (wSB K h0 a0_5 q_1) H := hP.sub [0, 1] rfl
  have hD : va_D A (wSB K h0 a0_5 q_1) := hD.sub [0, 1] (by decide +kernel) rfl
  refine W.widen (k := (gC (phSB os) (phSB q_1))) (n := (gS (phSB os) (phSB q_1))) (gC_add hg hg2_3) (gS_add hg hg2_3) ?_
  have hg : phSB os ≤ phSB q_1 := Nat.le_trans hg hg2_3
  exact bSB_setLength_5 C _ _ h hg hP hD hS (lv_sub hl [] rfl)
set_option maxRecDepth 100000 in
theorem mSB_setLength (l : Launch) (D : va_G) (K : Nat → ClassId) (sz : Nat) (v1 : Int32) (h0 : Nat) (a0 : Nat → Nat) (o0 : cf_O) (r : cf_O) (h : fSB_setLength v1 o0 = some r) : Met l ySB_setLength (Cond.code ySB_setLength cSB_setLength 2 (Option.none : Option Jvm.ClassFile.FieldType) :: cfB) ({ frames := 5, cells := (gC (phSB o0) (phSB r)), slots := (gS (phSB o0) (phSB r)), locals := 145 }) (va_Pc [.ref h0, .int v1] (cf_Pre D K sz (wSB K h0 a0 o0))) (va_Qv (fun (_ : Nat → Nat) => True) (fun (u : Nat → Nat) t => cf_At D (va_A (wSB K h0 a0 o0) sz) (wSB K h0 u r) t) (va_A (wSB K h0 a0 o0) sz)) (gC (phSB o0) (phSB r)) (gS (phSB o0) (phSB r)) (va_A (wSB K h0 a0 o0) sz) := by
  refine cf_ofW (y := ySB_setLength) (As := [.ref h0, .int v1]) (WS := wSB K h0 a0 o0) (maxL := 2) (fun A => (va_Qv (fun (_ : Nat → Nat) => True) (fun (u : Nat → Nat) t => cf_At D A (wSB K h0 u r) t) A)) (by decide) (Nat.le_of_ble_eq_true rfl) ?_
  intro p e s m below meth c A ls En hsz hA hP hD hE hS hl
  have C : (dc_C p s m (([.ref h0, .int v1] : List Value).toArray) meth c cSB_setLength 2 (Option.none : Option Jvm.ClassFile.FieldType) ySB_setLength ∧ cf_E D K A s s.heap ∧ ∀ q, s.heap.size ≤ q → A q) := ⟨En, hE, hA⟩
  refine W.widen (k := gC (phSB o0) (phSB o0)) (n := gS (phSB o0) (phSB o0)) (Nat.zero_le _) (Nat.zero_le _) ?_
  exact bSB_setLength_0 C v1 o0 r h (Nat.le_refl _) hP hD hS hl
set_option maxHeartbeats 4000000 in
set_option maxRecDepth 100000 in
theorem bJString_coder__S6_14 {p : Program} {l : Launch} {e : Env} {s : State} {m : MethodId} {below : List Frame} {meth : Method} {c : Code} {A : Nat → Prop} {D : va_G} {K : Nat → ClassId} {AR : Array Value} (C : (dc_C p s m AR meth c cJString_coder_ 1 (Option.some Jvm.ClassFile.FieldType.byte) yJString_coder_ ∧ cf_E D K A s s.heap ∧ ∀ q, s.heap.size ≤ q → A q)) (s0 : Int32) (r : Int32) (h : fJString_coder__S6_14 s0 = some r) {H : Heap} {locs : List Loc} {ls : Array Slot} (hP : va_P D vwCl ([]) H) (hD : va_D A ([])) (hS : va_S A s.heap H locs) (hl : lv_has ls 1 []) : W p l e ({ frames := 0, cells := 0, slots := 0, locals := 0 }) s m AR below meth c H locs 0 0 (MQ below (va_Qi (fun (x : Int32) (_ : Unit) => x = r) (fun (_ : Unit) t => cf_At D A ([]) t) A) AR s 0 0 A) (F0 m 14 ls [.int s0]) := by
  obtain ⟨⟨hx, hb, hr, hts, hown, hlocks, hin, hml⟩, hE, hA⟩ := id C
  have hK := hE.k
  obtain ⟨hz_1, h⟩ := op_w h
  obtain rfl := Option.some.inj h
  exact dc_zretn hx hb hr (op_nb hz_1) hlocks rfl hP hD hS dJString_coder__14
set_option maxHeartbeats 4000000 in
set_option maxRecDepth 100000 in
theorem bJString_coder__S6_0 {p : Program} {l : Launch} {e : Env} {s : State} {m : MethodId} {below : List Frame} {meth : Method} {c : Code} {A : Nat → Prop} {D : va_G} {K : Nat → ClassId} {AR : Array Value} (C : (dc_C p s m AR meth c cJString_coder_ 1 (Option.some Jvm.ClassFile.FieldType.byte) yJString_coder_ ∧ cf_E D K A s s.heap ∧ ∀ q, s.heap.size ≤ q → A q)) (r : Int32) (h : fJString_coder__S6_0 = some r) {H : Heap} {locs : List Loc} {ls : Array Slot} (hP : va_P D vwCl ([]) H) (hD : va_D A ([])) (hS : va_S A s.heap H locs) (hl : lv_has ls 1 [(0, .ref (K 106))]) : W p l e ({ frames := 0, cells := 0, slots := 0, locals := 0 }) s m AR below meth c H locs 0 0 (MQ below (va_Qi (fun (x : Int32) (_ : Unit) => x = r) (fun (_ : Unit) t => cf_At D A ([]) t) A) AR s 0 0 A) (F0 m 0 ls []) := by
  obtain ⟨⟨hx, hb, hr, hts, hown, hlocks, hin, hml⟩, hE, hA⟩ := id C
  have hK := hE.k
  refine va_gets hx hb hE.2.2.2.2.2.2.1 hS hown (hts _ wv_764) (fun _ h9 => h9) dJString_coder__0 ?_
  refine lv_if_eq (tgt := 13) hx hb dJString_coder__3 (by decide) (fun c_1 => absurd c_1 (by decide)) (fun _ => ?_)
  refine lv_aload_n hx hb dJString_coder__6 rfl (lv_at hl 0 rfl) ?_
  refine vk_getf hx hb (hE.s 6 rfl).2.2.1 hS hown (hts _ wv_1736) (fun _ h9 => h9) dJString_coder__7 ?_
  refine lv_goto (tgt := 14) hx hb dJString_coder__10 (by decide) ?_
  exact bJString_coder__S6_14 C _ _ h hP hD hS (lv_sub hl [] rfl)
set_option maxRecDepth 100000 in
theorem mJString_coder__S6 (l : Launch) (D : va_G) (K : Nat → ClassId) (sz : Nat) (r : Int32) (h : fJString_coder__S6 = some r) : Met l yJString_coder_ (Cond.code yJString_coder_ cJString_coder_ 1 (Option.some Jvm.ClassFile.FieldType.byte) :: cfB) ({ frames := 0, cells := 0, slots := 0, locals := 0 }) (va_Pc [.ref (K 106)] (cf_Pre D K sz ([]))) (va_Qi (fun (x : Int32) (_ : Unit) => x = r) (fun (_ : Unit) t => cf_At D (va_A ([]) sz) ([]) t) (va_A ([]) sz)) 0 0 (va_A ([]) sz) := by
  refine cf_ofW (y := yJString_coder_) (As := [.ref (K 106)]) (WS := []) (maxL := 1) (fun A => (va_Qi (fun (x : Int32) (_ : Unit) => x = r) (fun (_ : Unit) t => cf_At D A ([]) t) A)) (by decide) (Nat.le_of_ble_eq_true rfl) ?_
  intro p e s m below meth c A ls En hsz hA hP hD hE hS hl
  have C : (dc_C p s m (([.ref (K 106)] : List Value).toArray) meth c cJString_coder_ 1 (Option.some Jvm.ClassFile.FieldType.byte) yJString_coder_ ∧ cf_E D K A s s.heap ∧ ∀ q, s.heap.size ≤ q → A q) := ⟨En, hE, hA⟩
  exact bJString_coder__S6_0 C r h hP hD hS hl
set_option maxHeartbeats 4000000 in
set_option maxRecDepth 100000 in
theorem bJString_length__S6_0 {p : Program} {l : Launch} {e : Env} {s : State} {m : MethodId} {below : List Frame} {meth : Method} {c : Code} {A : Nat → Prop} {D : va_G} {K : Nat → ClassId} {AR : Array Value} (C : (dc_C p s m AR meth c cJString_length_ 1 (Option.some Jvm.ClassFile.FieldType.int) yJString_length_ ∧ cf_E D K A s s.heap ∧ ∀ q, s.heap.size ≤ q → A q)) (r : Int32) (h : fJString_length__S6_0 = some r) {H : Heap} {locs : List Loc} {ls : Array Slot} (hP : va_P D vwCl ([]) H) (hD : va_D A ([])) (hS : va_S A s.heap H locs) (hl : lv_has ls 1 [(0, .ref (K 106))]) : W p l e ({ frames := 1, cells := 0, slots := 0, locals := 20 }) s m AR below meth c H locs 0 0 (MQ below (va_Qi (fun (x : Int32) (_ : Unit) => x = r) (fun (_ : Unit) t => cf_At D A ([]) t) A) AR s 0 0 A) (F0 m 0 ls []) := by
  obtain ⟨⟨hx, hb, hr, hts, hown, hlocks, hin, hml⟩, hE, hA⟩ := id C
  have hK := hE.k
  refine lv_aload_n hx hb dJString_length__0 rfl (lv_at hl 0 rfl) ?_
  refine vk_getf hx hb (hE.s 6 rfl).2.2.2.1 hS hown (hts _ wv_1735) (fun _ h9 => h9) dJString_length__1 ?_
  refine va_tlen (v := 7) hx hb (hE.s 6 rfl).2.2.2.2 hS rfl dJString_length__4 ?_
  refine lv_aload_n hx hb dJString_length__5 rfl (lv_at hl 0 rfl) ?_
  obtain ⟨q_1, hq_1, h⟩ := op_b h
  refine cf_calli (wc := []) (wr := []) (va_runV (As := []) (rest := [.int 7]) ⟨hx, hb, hml, hown, hts⟩ (mJString_coder__S6 l D K _ _ hq_1) (cwV 0 hts (cf_GV wv_760 wv_761 wv_762 wv_168 wv_763) rfl rfl rfl (by decide +kernel) ⟨Nat.le_of_ble_eq_true rfl, Nat.le_of_ble_eq_true rfl⟩) (cf_preO (wc := []) (hE.s 6 rfl).2.1 hE hP hD hS hA [] rfl (by decide +kernel)) rfl rfl hl.1 rfl (lv_room (Nat.le_of_ble_eq_true rfl)) dJString_length__6 ⟨Nat.le_of_ble_eq_true rfl, Nat.le_of_ble_eq_true rfl⟩) hP hD hS hA [] [] rfl rfl (by decide +kernel) (by decide +kernel) (fun r_2 _ H locs hw_3 hP hD hS => ?_)
  subst r_2
  have hP : va_P D vwCl ([]) H := hP.sub [] rfl
  have hD : va_D A ([]) := hD.sub [] (by decide +kernel) rfl
  refine lv_ishr hx hb dJString_length__9 ?_
  refine lv_topi (fun x_4 ex_4 => ?_)
  have h := op_ks ex_4 h
  obtain rfl := Option.some.inj h
  exact dc_iret hx hb hr hlocks rfl hP hD hS dJString_length__10
set_option maxRecDepth 100000 in
theorem mJString_length__S6 (l : Launch) (D : va_G) (K : Nat → ClassId) (sz : Nat) (r : Int32) (h : fJString_length__S6 = some r) : Met l yJString_length_ (Cond.code yJString_length_ cJString_length_ 1 (Option.some Jvm.ClassFile.FieldType.int) :: cfB) ({ frames := 1, cells := 0, slots := 0, locals := 20 }) (va_Pc [.ref (K 106)] (cf_Pre D K sz ([]))) (va_Qi (fun (x : Int32) (_ : Unit) => x = r) (fun (_ : Unit) t => cf_At D (va_A ([]) sz) ([]) t) (va_A ([]) sz)) 0 0 (va_A ([]) sz) := by
  refine cf_ofW (y := yJString_length_) (As := [.ref (K 106)]) (WS := []) (maxL := 1) (fun A => (va_Qi (fun (x : Int32) (_ : Unit) => x = r) (fun (_ : Unit) t => cf_At D A ([]) t) A)) (by decide) (Nat.le_of_ble_eq_true rfl) ?_
  intro p e s m below meth c A ls En hsz hA hP hD hE hS hl
  have C : (dc_C p s m (([.ref (K 106)] : List Value).toArray) meth c cJString_length_ 1 (Option.some Jvm.ClassFile.FieldType.int) yJString_length_ ∧ cf_E D K A s s.heap ∧ ∀ q, s.heap.size ≤ q → A q) := ⟨En, hE, hA⟩
  exact bJString_length__S6_0 C r h hP hD hS hl
set_option maxHeartbeats 4000000 in
set_option maxRecDepth 100000 in
theorem bAS_inflateIfNeededFor_S6_21 {p : Program} {l : Launch} {e : Env} {s : State} {m : MethodId} {below : List Frame} {meth : Method} {c : Code} {A : Nat → Prop} {D : va_G} {K : Nat → ClassId} {h0 : Nat} {a0 : Nat → Nat} {AR : Array Value} (C : (dc_C p s m AR meth c cAS_inflateIfNeededFor 2 (Option.none : Option Jvm.ClassFile.FieldType) yAS_inflateIfNeededFor ∧ cf_E D K A s s.heap ∧ ∀ q, s.heap.size ≤ q → A q)) (o0 : cf_O) (r : Unit) (h : fAS_inflateIfNeededFor_S6_21 o0 = some r) {H : Heap} {locs : List Loc} {ls : Array Slot} (hP : va_P D vwCl (wSB K h0 a0 o0) H) (hD : va_D A (wSB K h0 a0 o0)) (hS : va_S A s.heap H locs) (hl : lv_has ls 2 []) : W p l e ({ frames := 1, cells := 0, slots := 0, locals := 20 }) s m AR below meth c H locs 0 0 (MQ below (va_Qv (fun (_ : Unit) => True) (fun (_ : Unit) t => cf_At D A (wSB K h0 a0 o0) t) A) AR s 0 0 A) (F0 m 21 ls []) := by
  obtain ⟨⟨hx, hb, hr, hts, hown, hlocks, hin, hml⟩, hE, hA⟩ := id C
  have hK := hE.k
  obtain rfl := Option.some.inj h
  exact dc_vret hx hb hr hlocks rfl hP hD hS dAS_inflateIfNeededFor_21
set_option maxHeartbeats 4000000 in
set_option maxRecDepth 100000 in
theorem bAS_inflateIfNeededFor_S6_0 {p : Program} {l : Launch} {e : Env} {s : State} {m : MethodId} {below : List Frame} {meth : Method} {c : Code} {A : Nat → Prop} {D : va_G} {K : Nat → ClassId} {h0 : Nat} {a0 : Nat → Nat} {AR : Array Value} (C : (dc_C p s m AR meth c cAS_inflateIfNeededFor 2 (Option.none : Option Jvm.ClassFile.FieldType) yAS_inflateIfNeededFor ∧ cf_E D K A s s.heap ∧ ∀ q, s.heap.size ≤ q → A q)) (o0 : cf_O) (r : Unit) (h : fAS_inflateIfNeededFor_S6_0 o0 = some r) {H : Heap} {locs : List Loc} {ls : Array Slot} (hP : va_P D vwCl (wSB K h0 a0 o0) H) (hD : va_D A (wSB K h0 a0 o0)) (hS : va_S A s.heap H locs) (hl : lv_has ls 2 [(0, .ref h0), (1, .ref (K 106))]) : W p l e ({ frames := 1, cells := 0, slots := 0, locals := 20 }) s m AR below meth c H locs 0 0 (MQ below (va_Qv (fun (_ : Unit) => True) (fun (_ : Unit) t => cf_At D A (wSB K h0 a0 o0) t) A) AR s 0 0 A) (F0 m 0 ls []) := by
  obtain ⟨⟨hx, hb, hr, hts, hown, hlocks, hin, hml⟩, hE, hA⟩ := id C
  have hK := hE.k
  refine va_gets hx hb hE.2.2.2.2.2.2.1 hS hown (hts _ wv_444) (fun _ h9 => h9) dAS_inflateIfNeededFor_0 ?_
  refine lv_if_eq (tgt := 21) hx hb dAS_inflateIfNeededFor_3 (by decide) (fun c_1 => absurd c_1 (by decide)) (fun _ => ?_)
  refine lv_aload_n hx hb dAS_inflateIfNeededFor_6 rfl (lv_at hl 0 rfl) ?_
  refine va_get (D := D) (ci := 13) (v := .int (o0.1 1)) (C := RSB) (T := TSB) (N := 4) hx hb hts inSB hown hK hP 0 rfl rfl 1 (by decide) (hts _ wv_454) (fun _ h9 => h9) rfl dAS_inflateIfNeededFor_7 ?_
  refine lv_aload_n hx hb dAS_inflateIfNeededFor_10 rfl (lv_at hl 1 rfl) ?_
  obtain ⟨q_2, hq_2, h⟩ := op_b h
  refine cf_calli (wc := []) (wr := wSB K h0 a0 o0) (va_runV (As := []) (rest := [.int (o0.1 1)]) ⟨hx, hb, hml, hown, hts⟩ (mJString_coder__S6 l D K _ _ hq_2) (cwV 0 hts (cf_GV wv_1619 wv_761 wv_762 wv_168 wv_763) rfl rfl rfl (by decide +kernel) ⟨Nat.le_of_ble_eq_true rfl, Nat.le_of_ble_eq_true rfl⟩) (cf_preO (wc := []) (hE.s 6 rfl).2.1 hE hP hD hS hA [] rfl (by decide +kernel)) rfl rfl hl.1 rfl (lv_room (Nat.le_of_ble_eq_true rfl)) dAS_inflateIfNeededFor_11 ⟨Nat.le_of_ble_eq_true rfl, Nat.le_of_ble_eq_true rfl⟩) hP hD hS hA [] [0, 1] rfl rfl (by decide +kernel) (by decide +kernel) (fun r_3 _ H locs hw_4 hP hD hS => ?_)
  subst r_3
  have hP : va_P D vwCl (wSB K h0 a0 o0) H := hP.sub [0, 1] rfl
  have hD : va_D A (wSB K h0 a0 o0) := hD.sub [0, 1] (by decide +kernel) rfl
  refine lv_icmp_eq (tgt := 21) hx hb dAS_inflateIfNeededFor_14 (by decide) (fun c_5 => ?_) (fun c_5 => ?_)
  · have h := op_t c_5 h
    exact bAS_inflateIfNeededFor_S6_21 C _ _ h hP hD hS (lv_sub hl [] rfl)
  · have h := op_f c_5 h
    refine lv_aload_n hx hb dAS_inflateIfNeededFor_17 rfl (lv_at hl 0 rfl) ?_
    cases h
set_option maxRecDepth 100000 in
theorem mAS_inflateIfNeededFor_S6 (l : Launch) (D : va_G) (K : Nat → ClassId) (sz : Nat) (h0 : Nat) (a0 : Nat → Nat) (o0 : cf_O) (r : Unit) (h : fAS_inflateIfNeededFor_S6 o0 = some r) : Met l yAS_inflateIfNeededFor (Cond.code yAS_inflateIfNeededFor cAS_inflateIfNeededFor 2 (Option.none : Option Jvm.ClassFile.FieldType) :: cfB) ({ frames := 1, cells := 0, slots := 0, locals := 20 }) (va_Pc [.ref h0, .ref (K 106)] (cf_Pre D K sz (wSB K h0 a0 o0))) (va_Qv (fun (_ : Unit) => True) (fun (_ : Unit) t => cf_At D (va_A (wSB K h0 a0 o0) sz) (wSB K h0 a0 o0) t) (va_A (wSB K h0 a0 o0) sz)) 0 0 (va_A (wSB K h0 a0 o0) sz) := by
  refine cf_ofW (y := yAS_inflateIfNeededFor) (As := [.ref h0, .ref (K 106)]) (WS := wSB K h0 a0 o0) (maxL := 2) (fun A => (va_Qv (fun (_ : Unit) => True) (fun (_ : Unit) t => cf_At D A (wSB K h0 a0 o0) t) A)) (by decide) (Nat.le_of_ble_eq_true rfl) ?_
  intro p e s m below meth c A ls En hsz hA hP hD hE hS hl
  have C : (dc_C p s m (([.ref h0, .ref (K 106)] : List Value).toArray) meth c cAS_inflateIfNeededFor 2 (Option.none : Option Jvm.ClassFile.FieldType) yAS_inflateIfNeededFor ∧ cf_E D K A s s.heap ∧ ∀ q, s.heap.size ≤ q → A q) := ⟨En, hE, hA⟩
  exact bAS_inflateIfNeededFor_S6_0 C o0 r h hP hD hS hl

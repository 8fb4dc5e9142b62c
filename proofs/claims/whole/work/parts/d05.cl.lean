def yFu_bit : MethodName := ⟨"CellForge$Functions", "bit", "(II)I"⟩
abbrev cFu_bit : ByteArray := prog_5_method_5_code
theorem dFu_bit_0 : decode cFu_bit 0 = .ok (.aload_n 0, 1) := by decide +kernel
theorem dFu_bit_1 : decode cFu_bit 1 = .ok (.iload_n 1, 1) := by decide +kernel
theorem dFu_bit_2 : decode cFu_bit 2 = .ok (.iload_n 2, 1) := by decide +kernel
theorem dFu_bit_3 : decode cFu_bit 3 = .ok (.bipush 6, 2) := by decide +kernel
theorem dFu_bit_5 : decode cFu_bit 5 = .ok (.ishr, 1) := by decide +kernel
theorem dFu_bit_6 : decode cFu_bit 6 = .ok (.invokevirtual 46, 3) := by decide +kernel
theorem dFu_bit_9 : decode cFu_bit 9 = .ok (.iload_n 2, 1) := by decide +kernel
theorem dFu_bit_10 : decode cFu_bit 10 = .ok (.bipush 63, 2) := by decide +kernel
theorem dFu_bit_12 : decode cFu_bit 12 = .ok (.iand, 1) := by decide +kernel
theorem dFu_bit_13 : decode cFu_bit 13 = .ok (.lushr, 1) := by decide +kernel
theorem dFu_bit_14 : decode cFu_bit 14 = .ok (.lconst 1, 1) := by decide +kernel
theorem dFu_bit_15 : decode cFu_bit 15 = .ok (.land, 1) := by decide +kernel
theorem dFu_bit_16 : decode cFu_bit 16 = .ok (.l2i, 1) := by decide +kernel
theorem dFu_bit_17 : decode cFu_bit 17 = .ok (.ireturn, 1) := by decide +kernel
def yJInteger_numberOfTrailingZeros_I : MethodName := ⟨"java/lang/Integer", "numberOfTrailingZeros", "(I)I"⟩
abbrev cJInteger_numberOfTrailingZeros_I : ByteArray := prog_22_method_48_code
theorem dJInteger_numberOfTrailingZeros_I_0 : decode cJInteger_numberOfTrailingZeros_I 0 = .ok (.iload_n 0, 1) := by decide +kernel
theorem dJInteger_numberOfTrailingZeros_I_1 : decode cJInteger_numberOfTrailingZeros_I 1 = .ok (.iconst (-1), 1) := by decide +kernel
theorem dJInteger_numberOfTrailingZeros_I_2 : decode cJInteger_numberOfTrailingZeros_I 2 = .ok (.ixor, 1) := by decide +kernel
theorem dJInteger_numberOfTrailingZeros_I_3 : decode cJInteger_numberOfTrailingZeros_I 3 = .ok (.iload_n 0, 1) := by decide +kernel
theorem dJInteger_numberOfTrailingZeros_I_4 : decode cJInteger_numberOfTrailingZeros_I 4 = .ok (.iconst 1, 1) := by decide +kernel
theorem dJInteger_numberOfTrailingZeros_I_5 : decode cJInteger_numberOfTrailingZeros_I 5 = .ok (.isub, 1) := by decide +kernel
theorem dJInteger_numberOfTrailingZeros_I_6 : decode cJInteger_numberOfTrailingZeros_I 6 = .ok (.iand, 1) := by decide +kernel
theorem dJInteger_numberOfTrailingZeros_I_7 : decode cJInteger_numberOfTrailingZeros_I 7 = .ok (.istore_n 0, 1) := by decide +kernel
theorem dJInteger_numberOfTrailingZeros_I_8 : decode cJInteger_numberOfTrailingZeros_I 8 = .ok (.iload_n 0, 1) := by decide +kernel
theorem dJInteger_numberOfTrailingZeros_I_9 : decode cJInteger_numberOfTrailingZeros_I 9 = .ok (.ifCond .gt 8, 3) := by decide +kernel
theorem dJInteger_numberOfTrailingZeros_I_12 : decode cJInteger_numberOfTrailingZeros_I 12 = .ok (.iload_n 0, 1) := by decide +kernel
theorem dJInteger_numberOfTrailingZeros_I_13 : decode cJInteger_numberOfTrailingZeros_I 13 = .ok (.bipush 32, 2) := by decide +kernel
theorem dJInteger_numberOfTrailingZeros_I_15 : decode cJInteger_numberOfTrailingZeros_I 15 = .ok (.iand, 1) := by decide +kernel
theorem dJInteger_numberOfTrailingZeros_I_16 : decode cJInteger_numberOfTrailingZeros_I 16 = .ok (.ireturn, 1) := by decide +kernel
theorem dJInteger_numberOfTrailingZeros_I_17 : decode cJInteger_numberOfTrailingZeros_I 17 = .ok (.iconst 1, 1) := by decide +kernel
theorem dJInteger_numberOfTrailingZeros_I_18 : decode cJInteger_numberOfTrailingZeros_I 18 = .ok (.istore_n 1, 1) := by decide +kernel
theorem dJInteger_numberOfTrailingZeros_I_19 : decode cJInteger_numberOfTrailingZeros_I 19 = .ok (.iload_n 0, 1) := by decide +kernel
theorem dJInteger_numberOfTrailingZeros_I_20 : decode cJInteger_numberOfTrailingZeros_I 20 = .ok (.ldc_w 264, 3) := by decide +kernel
theorem dJInteger_numberOfTrailingZeros_I_23 : decode cJInteger_numberOfTrailingZeros_I 23 = .ok (.if_icmp .le 11, 3) := by decide +kernel
theorem dJInteger_numberOfTrailingZeros_I_26 : decode cJInteger_numberOfTrailingZeros_I 26 = .ok (.iinc 1 16, 3) := by decide +kernel
theorem dJInteger_numberOfTrailingZeros_I_29 : decode cJInteger_numberOfTrailingZeros_I 29 = .ok (.iload_n 0, 1) := by decide +kernel
theorem dJInteger_numberOfTrailingZeros_I_30 : decode cJInteger_numberOfTrailingZeros_I 30 = .ok (.bipush 16, 2) := by decide +kernel
theorem dJInteger_numberOfTrailingZeros_I_32 : decode cJInteger_numberOfTrailingZeros_I 32 = .ok (.iushr, 1) := by decide +kernel
theorem dJInteger_numberOfTrailingZeros_I_33 : decode cJInteger_numberOfTrailingZeros_I 33 = .ok (.istore_n 0, 1) := by decide +kernel
theorem dJInteger_numberOfTrailingZeros_I_34 : decode cJInteger_numberOfTrailingZeros_I 34 = .ok (.iload_n 0, 1) := by decide +kernel
theorem dJInteger_numberOfTrailingZeros_I_35 : decode cJInteger_numberOfTrailingZeros_I 35 = .ok (.sipush 256, 3) := by decide +kernel
theorem dJInteger_numberOfTrailingZeros_I_38 : decode cJInteger_numberOfTrailingZeros_I 38 = .ok (.if_icmp .le 11, 3) := by decide +kernel
theorem dJInteger_numberOfTrailingZeros_I_41 : decode cJInteger_numberOfTrailingZeros_I 41 = .ok (.iinc 1 8, 3) := by decide +kernel
theorem dJInteger_numberOfTrailingZeros_I_44 : decode cJInteger_numberOfTrailingZeros_I 44 = .ok (.iload_n 0, 1) := by decide +kernel
theorem dJInteger_numberOfTrailingZeros_I_45 : decode cJInteger_numberOfTrailingZeros_I 45 = .ok (.bipush 8, 2) := by decide +kernel
theorem dJInteger_numberOfTrailingZeros_I_47 : decode cJInteger_numberOfTrailingZeros_I 47 = .ok (.iushr, 1) := by decide +kernel
theorem dJInteger_numberOfTrailingZeros_I_48 : decode cJInteger_numberOfTrailingZeros_I 48 = .ok (.istore_n 0, 1) := by decide +kernel
theorem dJInteger_numberOfTrailingZeros_I_49 : decode cJInteger_numberOfTrailingZeros_I 49 = .ok (.iload_n 0, 1) := by decide +kernel
theorem dJInteger_numberOfTrailingZeros_I_50 : decode cJInteger_numberOfTrailingZeros_I 50 = .ok (.bipush 16, 2) := by decide +kernel
theorem dJInteger_numberOfTrailingZeros_I_52 : decode cJInteger_numberOfTrailingZeros_I 52 = .ok (.if_icmp .le 10, 3) := by decide +kernel
theorem dJInteger_numberOfTrailingZeros_I_55 : decode cJInteger_numberOfTrailingZeros_I 55 = .ok (.iinc 1 4, 3) := by decide +kernel
theorem dJInteger_numberOfTrailingZeros_I_58 : decode cJInteger_numberOfTrailingZeros_I 58 = .ok (.iload_n 0, 1) := by decide +kernel
theorem dJInteger_numberOfTrailingZeros_I_59 : decode cJInteger_numberOfTrailingZeros_I 59 = .ok (.iconst 4, 1) := by decide +kernel
theorem dJInteger_numberOfTrailingZeros_I_60 : decode cJInteger_numberOfTrailingZeros_I 60 = .ok (.iushr, 1) := by decide +kernel
theorem dJInteger_numberOfTrailingZeros_I_61 : decode cJInteger_numberOfTrailingZeros_I 61 = .ok (.istore_n 0, 1) := by decide +kernel
theorem dJInteger_numberOfTrailingZeros_I_62 : decode cJInteger_numberOfTrailingZeros_I 62 = .ok (.iload_n 0, 1) := by decide +kernel
theorem dJInteger_numberOfTrailingZeros_I_63 : decode cJInteger_numberOfTrailingZeros_I 63 = .ok (.iconst 4, 1) := by decide +kernel
theorem dJInteger_numberOfTrailingZeros_I_64 : decode cJInteger_numberOfTrailingZeros_I 64 = .ok (.if_icmp .le 10, 3) := by decide +kernel
theorem dJInteger_numberOfTrailingZeros_I_67 : decode cJInteger_numberOfTrailingZeros_I 67 = .ok (.iinc 1 2, 3) := by decide +kernel
theorem dJInteger_numberOfTrailingZeros_I_70 : decode cJInteger_numberOfTrailingZeros_I 70 = .ok (.iload_n 0, 1) := by decide +kernel
theorem dJInteger_numberOfTrailingZeros_I_71 : decode cJInteger_numberOfTrailingZeros_I 71 = .ok (.iconst 2, 1) := by decide +kernel
theorem dJInteger_numberOfTrailingZeros_I_72 : decode cJInteger_numberOfTrailingZeros_I 72 = .ok (.iushr, 1) := by decide +kernel
theorem dJInteger_numberOfTrailingZeros_I_73 : decode cJInteger_numberOfTrailingZeros_I 73 = .ok (.istore_n 0, 1) := by decide +kernel
theorem dJInteger_numberOfTrailingZeros_I_74 : decode cJInteger_numberOfTrailingZeros_I 74 = .ok (.iload_n 1, 1) := by decide +kernel
theorem dJInteger_numberOfTrailingZeros_I_75 : decode cJInteger_numberOfTrailingZeros_I 75 = .ok (.iload_n 0, 1) := by decide +kernel
theorem dJInteger_numberOfTrailingZeros_I_76 : decode cJInteger_numberOfTrailingZeros_I 76 = .ok (.iconst 1, 1) := by decide +kernel
theorem dJInteger_numberOfTrailingZeros_I_77 : decode cJInteger_numberOfTrailingZeros_I 77 = .ok (.iushr, 1) := by decide +kernel
theorem dJInteger_numberOfTrailingZeros_I_78 : decode cJInteger_numberOfTrailingZeros_I 78 = .ok (.iadd, 1) := by decide +kernel
theorem dJInteger_numberOfTrailingZeros_I_79 : decode cJInteger_numberOfTrailingZeros_I 79 = .ok (.ireturn, 1) := by decide +kernel
def yJLong_numberOfTrailingZeros_J : MethodName := ⟨"java/lang/Long", "numberOfTrailingZeros", "(J)I"⟩
abbrev cJLong_numberOfTrailingZeros_J : ByteArray := prog_23_method_49_code
theorem dJLong_numberOfTrailingZeros_J_0 : decode cJLong_numberOfTrailingZeros_J 0 = .ok (.lload_n 0, 1) := by decide +kernel
theorem dJLong_numberOfTrailingZeros_J_1 : decode cJLong_numberOfTrailingZeros_J 1 = .ok (.l2i, 1) := by decide +kernel
theorem dJLong_numberOfTrailingZeros_J_2 : decode cJLong_numberOfTrailingZeros_J 2 = .ok (.istore_n 2, 1) := by decide +kernel
theorem dJLong_numberOfTrailingZeros_J_3 : decode cJLong_numberOfTrailingZeros_J 3 = .ok (.iload_n 2, 1) := by decide +kernel
theorem dJLong_numberOfTrailingZeros_J_4 : decode cJLong_numberOfTrailingZeros_J 4 = .ok (.ifCond .ne 17, 3) := by decide +kernel
theorem dJLong_numberOfTrailingZeros_J_7 : decode cJLong_numberOfTrailingZeros_J 7 = .ok (.bipush 32, 2) := by decide +kernel
theorem dJLong_numberOfTrailingZeros_J_9 : decode cJLong_numberOfTrailingZeros_J 9 = .ok (.lload_n 0, 1) := by decide +kernel
theorem dJLong_numberOfTrailingZeros_J_10 : decode cJLong_numberOfTrailingZeros_J 10 = .ok (.bipush 32, 2) := by decide +kernel
theorem dJLong_numberOfTrailingZeros_J_12 : decode cJLong_numberOfTrailingZeros_J 12 = .ok (.lushr, 1) := by decide +kernel
theorem dJLong_numberOfTrailingZeros_J_13 : decode cJLong_numberOfTrailingZeros_J 13 = .ok (.l2i, 1) := by decide +kernel
theorem dJLong_numberOfTrailingZeros_J_14 : decode cJLong_numberOfTrailingZeros_J 14 = .ok (.invokestatic 311, 3) := by decide +kernel
theorem dJLong_numberOfTrailingZeros_J_17 : decode cJLong_numberOfTrailingZeros_J 17 = .ok (.iadd, 1) := by decide +kernel
theorem dJLong_numberOfTrailingZeros_J_18 : decode cJLong_numberOfTrailingZeros_J 18 = .ok (.goto 7, 3) := by decide +kernel
theorem dJLong_numberOfTrailingZeros_J_21 : decode cJLong_numberOfTrailingZeros_J 21 = .ok (.iload_n 2, 1) := by decide +kernel
theorem dJLong_numberOfTrailingZeros_J_22 : decode cJLong_numberOfTrailingZeros_J 22 = .ok (.invokestatic 311, 3) := by decide +kernel
theorem dJLong_numberOfTrailingZeros_J_25 : decode cJLong_numberOfTrailingZeros_J 25 = .ok (.ireturn, 1) := by decide +kernel
theorem wv_1258 : Cond.methodLink "java/lang/Long" 311 (⟨"java/lang/Integer", "numberOfTrailingZeros", "(I)I"⟩ : MethodName) ∈ cfB := cf_in 1258 (by decide +kernel) rfl
theorem wv_1260 : Cond.code (⟨"java/lang/Integer", "numberOfTrailingZeros", "(I)I"⟩ : MethodName) prog_22_method_48_code 2 (Option.some Jvm.ClassFile.FieldType.int) ∈ cfB := cf_in 1260 (by decide +kernel) rfl
theorem wv_1259 : Cond.static (⟨"java/lang/Integer", "numberOfTrailingZeros", "(I)I"⟩ : MethodName) ∈ cfB := cf_in 1259 (by decide +kernel) rfl
def yFu_leastUnlike : MethodName := ⟨"CellForge$Functions", "leastUnlike", "(II)I"⟩
abbrev cFu_leastUnlike : ByteArray := prog_5_method_7_code
theorem dFu_leastUnlike_0 : decode cFu_leastUnlike 0 = .ok (.iconst 0, 1) := by decide +kernel
theorem dFu_leastUnlike_1 : decode cFu_leastUnlike 1 = .ok (.istore_n 3, 1) := by decide +kernel
theorem dFu_leastUnlike_2 : decode cFu_leastUnlike 2 = .ok (.iload_n 3, 1) := by decide +kernel
theorem dFu_leastUnlike_3 : decode cFu_leastUnlike 3 = .ok (.iconst 4, 1) := by decide +kernel
theorem dFu_leastUnlike_4 : decode cFu_leastUnlike 4 = .ok (.if_icmp .ge 42, 3) := by decide +kernel
theorem dFu_leastUnlike_7 : decode cFu_leastUnlike 7 = .ok (.aload_n 0, 1) := by decide +kernel
theorem dFu_leastUnlike_8 : decode cFu_leastUnlike 8 = .ok (.iload_n 1, 1) := by decide +kernel
theorem dFu_leastUnlike_9 : decode cFu_leastUnlike 9 = .ok (.iload_n 3, 1) := by decide +kernel
theorem dFu_leastUnlike_10 : decode cFu_leastUnlike 10 = .ok (.invokevirtual 46, 3) := by decide +kernel
theorem dFu_leastUnlike_13 : decode cFu_leastUnlike 13 = .ok (.aload_n 0, 1) := by decide +kernel
theorem dFu_leastUnlike_14 : decode cFu_leastUnlike 14 = .ok (.iload_n 2, 1) := by decide +kernel
theorem dFu_leastUnlike_15 : decode cFu_leastUnlike 15 = .ok (.iload_n 3, 1) := by decide +kernel
theorem dFu_leastUnlike_16 : decode cFu_leastUnlike 16 = .ok (.invokevirtual 46, 3) := by decide +kernel
theorem dFu_leastUnlike_19 : decode cFu_leastUnlike 19 = .ok (.lxor, 1) := by decide +kernel
theorem dFu_leastUnlike_20 : decode cFu_leastUnlike 20 = .ok (.lstore 4, 2) := by decide +kernel
theorem dFu_leastUnlike_22 : decode cFu_leastUnlike 22 = .ok (.lload 4, 2) := by decide +kernel
theorem dFu_leastUnlike_24 : decode cFu_leastUnlike 24 = .ok (.lconst 0, 1) := by decide +kernel
theorem dFu_leastUnlike_25 : decode cFu_leastUnlike 25 = .ok (.lcmp, 1) := by decide +kernel
theorem dFu_leastUnlike_26 : decode cFu_leastUnlike 26 = .ok (.ifCond .eq 14, 3) := by decide +kernel
theorem dFu_leastUnlike_29 : decode cFu_leastUnlike 29 = .ok (.bipush 64, 2) := by decide +kernel
theorem dFu_leastUnlike_31 : decode cFu_leastUnlike 31 = .ok (.iload_n 3, 1) := by decide +kernel
theorem dFu_leastUnlike_32 : decode cFu_leastUnlike 32 = .ok (.imul, 1) := by decide +kernel
theorem dFu_leastUnlike_33 : decode cFu_leastUnlike 33 = .ok (.lload 4, 2) := by decide +kernel
theorem dFu_leastUnlike_35 : decode cFu_leastUnlike 35 = .ok (.invokestatic 59, 3) := by decide +kernel
theorem dFu_leastUnlike_38 : decode cFu_leastUnlike 38 = .ok (.iadd, 1) := by decide +kernel
theorem dFu_leastUnlike_39 : decode cFu_leastUnlike 39 = .ok (.ireturn, 1) := by decide +kernel
theorem dFu_leastUnlike_40 : decode cFu_leastUnlike 40 = .ok (.iinc 3 1, 3) := by decide +kernel
theorem dFu_leastUnlike_43 : decode cFu_leastUnlike 43 = .ok (.goto (-41), 3) := by decide +kernel
theorem dFu_leastUnlike_46 : decode cFu_leastUnlike 46 = .ok (.iconst (-1), 1) := by decide +kernel
theorem dFu_leastUnlike_47 : decode cFu_leastUnlike 47 = .ok (.ireturn, 1) := by decide +kernel
theorem wv_1255 : Cond.methodLink "CellForge$Functions" 59 (⟨"java/lang/Long", "numberOfTrailingZeros", "(J)I"⟩ : MethodName) ∈ cfB := cf_in 1255 (by decide +kernel) rfl
theorem wv_1257 : Cond.code (⟨"java/lang/Long", "numberOfTrailingZeros", "(J)I"⟩ : MethodName) prog_23_method_49_code 3 (Option.some Jvm.ClassFile.FieldType.int) ∈ cfB := cf_in 1257 (by decide +kernel) rfl
theorem wv_1256 : Cond.static (⟨"java/lang/Long", "numberOfTrailingZeros", "(J)I"⟩ : MethodName) ∈ cfB := cf_in 1256 (by decide +kernel) rfl
def yFu_areSame : MethodName := ⟨"CellForge$Functions", "areSame", "(II)Z"⟩
abbrev cFu_areSame : ByteArray := prog_5_method_6_code
theorem dFu_areSame_0 : decode cFu_areSame 0 = .ok (.aload_n 0, 1) := by decide +kernel
theorem dFu_areSame_1 : decode cFu_areSame 1 = .ok (.iload_n 1, 1) := by decide +kernel
theorem dFu_areSame_2 : decode cFu_areSame 2 = .ok (.iload_n 2, 1) := by decide +kernel
theorem dFu_areSame_3 : decode cFu_areSame 3 = .ok (.invokevirtual 55, 3) := by decide +kernel
theorem dFu_areSame_6 : decode cFu_areSame 6 = .ok (.iconst (-1), 1) := by decide +kernel
theorem dFu_areSame_7 : decode cFu_areSame 7 = .ok (.if_icmp .ne 7, 3) := by decide +kernel
theorem dFu_areSame_10 : decode cFu_areSame 10 = .ok (.iconst 1, 1) := by decide +kernel
theorem dFu_areSame_11 : decode cFu_areSame 11 = .ok (.goto 4, 3) := by decide +kernel
theorem dFu_areSame_14 : decode cFu_areSame 14 = .ok (.iconst 0, 1) := by decide +kernel
theorem dFu_areSame_15 : decode cFu_areSame 15 = .ok (.ireturn, 1) := by decide +kernel
theorem wv_1251 : Cond.methodLink "CellForge$Functions" 55 (⟨"CellForge$Functions", "leastUnlike", "(II)I"⟩ : MethodName) ∈ cfB := cf_in 1251 (by decide +kernel) rfl
theorem wv_1254 : Cond.code (⟨"CellForge$Functions", "leastUnlike", "(II)I"⟩ : MethodName) prog_5_method_7_code 6 (Option.some Jvm.ClassFile.FieldType.int) ∈ cfB := cf_in 1254 (by decide +kernel) rfl
theorem wv_1252 : Cond.instanceMethod (⟨"CellForge$Functions", "leastUnlike", "(II)I"⟩ : MethodName) ∈ cfB := cf_in 1252 (by decide +kernel) rfl
theorem wv_1253 : Cond.selects "CellForge$Functions" (⟨"CellForge$Functions", "leastUnlike", "(II)I"⟩ : MethodName) (⟨"CellForge$Functions", "leastUnlike", "(II)I"⟩ : MethodName) ∈ cfB := cf_in 1253 (by decide +kernel) rfl
def yFu_ones : MethodName := ⟨"CellForge$Functions", "ones", "(II)I"⟩
abbrev cFu_ones : ByteArray := prog_5_method_8_code
theorem dFu_ones_0 : decode cFu_ones 0 = .ok (.iconst 0, 1) := by decide +kernel
theorem dFu_ones_1 : decode cFu_ones 1 = .ok (.istore_n 3, 1) := by decide +kernel
theorem dFu_ones_2 : decode cFu_ones 2 = .ok (.iconst 0, 1) := by decide +kernel
theorem dFu_ones_3 : decode cFu_ones 3 = .ok (.istore 4, 2) := by decide +kernel
theorem dFu_ones_5 : decode cFu_ones 5 = .ok (.iload 4, 2) := by decide +kernel
theorem dFu_ones_7 : decode cFu_ones 7 = .ok (.iconst 4, 1) := by decide +kernel
theorem dFu_ones_8 : decode cFu_ones 8 = .ok (.if_icmp .ge 22, 3) := by decide +kernel
theorem dFu_ones_11 : decode cFu_ones 11 = .ok (.iload_n 3, 1) := by decide +kernel
theorem dFu_ones_12 : decode cFu_ones 12 = .ok (.aload_n 0, 1) := by decide +kernel
theorem dFu_ones_13 : decode cFu_ones 13 = .ok (.iload_n 1, 1) := by decide +kernel
theorem dFu_ones_14 : decode cFu_ones 14 = .ok (.iload 4, 2) := by decide +kernel
theorem dFu_ones_16 : decode cFu_ones 16 = .ok (.invokevirtual 46, 3) := by decide +kernel
theorem dFu_ones_19 : decode cFu_ones 19 = .ok (.invokestatic 65, 3) := by decide +kernel
theorem dFu_ones_22 : decode cFu_ones 22 = .ok (.iadd, 1) := by decide +kernel
theorem dFu_ones_23 : decode cFu_ones 23 = .ok (.istore_n 3, 1) := by decide +kernel
theorem dFu_ones_24 : decode cFu_ones 24 = .ok (.iinc 4 1, 3) := by decide +kernel
theorem dFu_ones_27 : decode cFu_ones 27 = .ok (.goto (-22), 3) := by decide +kernel
theorem dFu_ones_30 : decode cFu_ones 30 = .ok (.iload_n 3, 1) := by decide +kernel
theorem dFu_ones_31 : decode cFu_ones 31 = .ok (.bipush 8, 2) := by decide +kernel
theorem dFu_ones_33 : decode cFu_ones 33 = .ok (.iload_n 2, 1) := by decide +kernel
theorem dFu_ones_34 : decode cFu_ones 34 = .ok (.isub, 1) := by decide +kernel
theorem dFu_ones_35 : decode cFu_ones 35 = .ok (.ishr, 1) := by decide +kernel
theorem dFu_ones_36 : decode cFu_ones 36 = .ok (.ireturn, 1) := by decide +kernel
theorem wv_1432 : Cond.methodLink "CellForge$Functions" 65 (⟨"java/lang/Long", "bitCount", "(J)I"⟩ : MethodName) ∈ cfB := cf_in 1432 (by decide +kernel) rfl
def yFu_firstAsked : MethodName := ⟨"CellForge$Functions", "firstAsked", "(II)I"⟩
abbrev cFu_firstAsked : ByteArray := prog_5_method_9_code
theorem dFu_firstAsked_0 : decode cFu_firstAsked 0 = .ok (.iconst 0, 1) := by decide +kernel
theorem dFu_firstAsked_1 : decode cFu_firstAsked 1 = .ok (.istore_n 3, 1) := by decide +kernel
theorem dFu_firstAsked_2 : decode cFu_firstAsked 2 = .ok (.iload_n 3, 1) := by decide +kernel
theorem dFu_firstAsked_3 : decode cFu_firstAsked 3 = .ok (.iload_n 2, 1) := by decide +kernel
theorem dFu_firstAsked_4 : decode cFu_firstAsked 4 = .ok (.if_icmp .ge 49, 3) := by decide +kernel
theorem dFu_firstAsked_7 : decode cFu_firstAsked 7 = .ok (.iconst 0, 1) := by decide +kernel
theorem dFu_firstAsked_8 : decode cFu_firstAsked 8 = .ok (.istore 4, 2) := by decide +kernel
theorem dFu_firstAsked_10 : decode cFu_firstAsked 10 = .ok (.iload 4, 2) := by decide +kernel
theorem dFu_firstAsked_12 : decode cFu_firstAsked 12 = .ok (.iconst 1, 1) := by decide +kernel
theorem dFu_firstAsked_13 : decode cFu_firstAsked 13 = .ok (.iload_n 2, 1) := by decide +kernel
theorem dFu_firstAsked_14 : decode cFu_firstAsked 14 = .ok (.ishl, 1) := by decide +kernel
theorem dFu_firstAsked_15 : decode cFu_firstAsked 15 = .ok (.if_icmp .ge 32, 3) := by decide +kernel
theorem dFu_firstAsked_18 : decode cFu_firstAsked 18 = .ok (.aload_n 0, 1) := by decide +kernel
theorem dFu_firstAsked_19 : decode cFu_firstAsked 19 = .ok (.iload_n 1, 1) := by decide +kernel
theorem dFu_firstAsked_20 : decode cFu_firstAsked 20 = .ok (.iload 4, 2) := by decide +kernel
theorem dFu_firstAsked_22 : decode cFu_firstAsked 22 = .ok (.invokevirtual 68, 3) := by decide +kernel
theorem dFu_firstAsked_25 : decode cFu_firstAsked 25 = .ok (.aload_n 0, 1) := by decide +kernel
theorem dFu_firstAsked_26 : decode cFu_firstAsked 26 = .ok (.iload_n 1, 1) := by decide +kernel
theorem dFu_firstAsked_27 : decode cFu_firstAsked 27 = .ok (.iload 4, 2) := by decide +kernel
theorem dFu_firstAsked_29 : decode cFu_firstAsked 29 = .ok (.iconst 1, 1) := by decide +kernel
theorem dFu_firstAsked_30 : decode cFu_firstAsked 30 = .ok (.iload_n 3, 1) := by decide +kernel
theorem dFu_firstAsked_31 : decode cFu_firstAsked 31 = .ok (.ishl, 1) := by decide +kernel
theorem dFu_firstAsked_32 : decode cFu_firstAsked 32 = .ok (.ixor, 1) := by decide +kernel
theorem dFu_firstAsked_33 : decode cFu_firstAsked 33 = .ok (.invokevirtual 68, 3) := by decide +kernel
theorem dFu_firstAsked_36 : decode cFu_firstAsked 36 = .ok (.if_icmp .eq 5, 3) := by decide +kernel
theorem dFu_firstAsked_39 : decode cFu_firstAsked 39 = .ok (.iload_n 3, 1) := by decide +kernel
theorem dFu_firstAsked_40 : decode cFu_firstAsked 40 = .ok (.ireturn, 1) := by decide +kernel
theorem dFu_firstAsked_41 : decode cFu_firstAsked 41 = .ok (.iinc 4 1, 3) := by decide +kernel
theorem dFu_firstAsked_44 : decode cFu_firstAsked 44 = .ok (.goto (-34), 3) := by decide +kernel
theorem dFu_firstAsked_47 : decode cFu_firstAsked 47 = .ok (.iinc 3 1, 3) := by decide +kernel
theorem dFu_firstAsked_50 : decode cFu_firstAsked 50 = .ok (.goto (-48), 3) := by decide +kernel
theorem dFu_firstAsked_53 : decode cFu_firstAsked 53 = .ok (.iconst (-1), 1) := by decide +kernel
theorem dFu_firstAsked_54 : decode cFu_firstAsked 54 = .ok (.ireturn, 1) := by decide +kernel
theorem wv_1419 : Cond.methodLink "CellForge$Functions" 68 (⟨"CellForge$Functions", "bit", "(II)I"⟩ : MethodName) ∈ cfB := cf_in 1419 (by decide +kernel) rfl
theorem wv_1180 : Cond.code (⟨"CellForge$Functions", "bit", "(II)I"⟩ : MethodName) prog_5_method_5_code 3 (Option.some Jvm.ClassFile.FieldType.int) ∈ cfB := cf_in 1180 (by decide +kernel) rfl
theorem wv_1178 : Cond.instanceMethod (⟨"CellForge$Functions", "bit", "(II)I"⟩ : MethodName) ∈ cfB := cf_in 1178 (by decide +kernel) rfl
theorem wv_1179 : Cond.selects "CellForge$Functions" (⟨"CellForge$Functions", "bit", "(II)I"⟩ : MethodName) (⟨"CellForge$Functions", "bit", "(II)I"⟩ : MethodName) ∈ cfB := cf_in 1179 (by decide +kernel) rfl
def yFu_questionOf : MethodName := ⟨"CellForge$Functions", "questionOf", "(III)I"⟩
abbrev cFu_questionOf : ByteArray := prog_5_method_12_code
theorem dFu_questionOf_0 : decode cFu_questionOf 0 = .ok (.iconst 0, 1) := by decide +kernel
theorem dFu_questionOf_1 : decode cFu_questionOf 1 = .ok (.istore 4, 2) := by decide +kernel
theorem dFu_questionOf_3 : decode cFu_questionOf 3 = .ok (.iload 4, 2) := by decide +kernel
theorem dFu_questionOf_5 : decode cFu_questionOf 5 = .ok (.iload_n 3, 1) := by decide +kernel
theorem dFu_questionOf_6 : decode cFu_questionOf 6 = .ok (.if_icmp .ge 34, 3) := by decide +kernel
theorem dFu_questionOf_9 : decode cFu_questionOf 9 = .ok (.aload_n 0, 1) := by decide +kernel
theorem dFu_questionOf_10 : decode cFu_questionOf 10 = .ok (.getfield 19, 3) := by decide +kernel
theorem dFu_questionOf_13 : decode cFu_questionOf 13 = .ok (.iload 4, 2) := by decide +kernel
theorem dFu_questionOf_15 : decode cFu_questionOf 15 = .ok (.iaload, 1) := by decide +kernel
theorem dFu_questionOf_16 : decode cFu_questionOf 16 = .ok (.iload_n 1, 1) := by decide +kernel
theorem dFu_questionOf_17 : decode cFu_questionOf 17 = .ok (.if_icmp .ne 17, 3) := by decide +kernel
theorem dFu_questionOf_20 : decode cFu_questionOf 20 = .ok (.aload_n 0, 1) := by decide +kernel
theorem dFu_questionOf_21 : decode cFu_questionOf 21 = .ok (.getfield 22, 3) := by decide +kernel
theorem dFu_questionOf_24 : decode cFu_questionOf 24 = .ok (.iload 4, 2) := by decide +kernel
theorem dFu_questionOf_26 : decode cFu_questionOf 26 = .ok (.iaload, 1) := by decide +kernel
theorem dFu_questionOf_27 : decode cFu_questionOf 27 = .ok (.iload_n 2, 1) := by decide +kernel
theorem dFu_questionOf_28 : decode cFu_questionOf 28 = .ok (.if_icmp .ne 6, 3) := by decide +kernel
theorem dFu_questionOf_31 : decode cFu_questionOf 31 = .ok (.iload 4, 2) := by decide +kernel
theorem dFu_questionOf_33 : decode cFu_questionOf 33 = .ok (.ireturn, 1) := by decide +kernel
theorem dFu_questionOf_34 : decode cFu_questionOf 34 = .ok (.iinc 4 1, 3) := by decide +kernel
theorem dFu_questionOf_37 : decode cFu_questionOf 37 = .ok (.goto (-34), 3) := by decide +kernel
theorem dFu_questionOf_40 : decode cFu_questionOf 40 = .ok (.iload_n 3, 1) := by decide +kernel
theorem dFu_questionOf_41 : decode cFu_questionOf 41 = .ok (.ireturn, 1) := by decide +kernel
def yFu_askInput : MethodName := ⟨"CellForge$Functions", "askInput", "(II)I"⟩
abbrev cFu_askInput : ByteArray := prog_5_method_11_code
theorem dFu_askInput_0 : decode cFu_askInput 0 = .ok (.iconst 0, 1) := by decide +kernel
theorem dFu_askInput_1 : decode cFu_askInput 1 = .ok (.istore_n 3, 1) := by decide +kernel
theorem dFu_askInput_2 : decode cFu_askInput 2 = .ok (.iconst 0, 1) := by decide +kernel
theorem dFu_askInput_3 : decode cFu_askInput 3 = .ok (.istore 4, 2) := by decide +kernel
theorem dFu_askInput_5 : decode cFu_askInput 5 = .ok (.iload 4, 2) := by decide +kernel
theorem dFu_askInput_7 : decode cFu_askInput 7 = .ok (.iconst 1, 1) := by decide +kernel
theorem dFu_askInput_8 : decode cFu_askInput 8 = .ok (.iload_n 1, 1) := by decide +kernel
theorem dFu_askInput_9 : decode cFu_askInput 9 = .ok (.ishl, 1) := by decide +kernel
theorem dFu_askInput_10 : decode cFu_askInput 10 = .ok (.if_icmp .ge 88, 3) := by decide +kernel
theorem dFu_askInput_13 : decode cFu_askInput 13 = .ok (.aload_n 0, 1) := by decide +kernel
theorem dFu_askInput_14 : decode cFu_askInput 14 = .ok (.getfield 15, 3) := by decide +kernel
theorem dFu_askInput_17 : decode cFu_askInput 17 = .ok (.iload 4, 2) := by decide +kernel
theorem dFu_askInput_19 : decode cFu_askInput 19 = .ok (.iaload, 1) := by decide +kernel
theorem dFu_askInput_20 : decode cFu_askInput 20 = .ok (.istore 5, 2) := by decide +kernel
theorem dFu_askInput_22 : decode cFu_askInput 22 = .ok (.aload_n 0, 1) := by decide +kernel
theorem dFu_askInput_23 : decode cFu_askInput 23 = .ok (.getfield 15, 3) := by decide +kernel
theorem dFu_askInput_26 : decode cFu_askInput 26 = .ok (.iload 4, 2) := by decide +kernel
theorem dFu_askInput_28 : decode cFu_askInput 28 = .ok (.iconst 1, 1) := by decide +kernel
theorem dFu_askInput_29 : decode cFu_askInput 29 = .ok (.iload_n 1, 1) := by decide +kernel
theorem dFu_askInput_30 : decode cFu_askInput 30 = .ok (.ishl, 1) := by decide +kernel
theorem dFu_askInput_31 : decode cFu_askInput 31 = .ok (.iadd, 1) := by decide +kernel
theorem dFu_askInput_32 : decode cFu_askInput 32 = .ok (.iaload, 1) := by decide +kernel
theorem dFu_askInput_33 : decode cFu_askInput 33 = .ok (.istore 6, 2) := by decide +kernel
theorem dFu_askInput_35 : decode cFu_askInput 35 = .ok (.iload 5, 2) := by decide +kernel
theorem dFu_askInput_37 : decode cFu_askInput 37 = .ok (.iload 6, 2) := by decide +kernel
theorem dFu_askInput_39 : decode cFu_askInput 39 = .ok (.if_icmp .ne 6, 3) := by decide +kernel
theorem dFu_askInput_42 : decode cFu_askInput 42 = .ok (.goto 50, 3) := by decide +kernel
theorem dFu_askInput_45 : decode cFu_askInput 45 = .ok (.aload_n 0, 1) := by decide +kernel
theorem dFu_askInput_46 : decode cFu_askInput 46 = .ok (.iload 5, 2) := by decide +kernel
theorem dFu_askInput_48 : decode cFu_askInput 48 = .ok (.iload 6, 2) := by decide +kernel
theorem dFu_askInput_50 : decode cFu_askInput 50 = .ok (.iload_n 3, 1) := by decide +kernel
theorem dFu_askInput_51 : decode cFu_askInput 51 = .ok (.invokevirtual 74, 3) := by decide +kernel
theorem dFu_askInput_54 : decode cFu_askInput 54 = .ok (.istore 7, 2) := by decide +kernel
theorem dFu_askInput_56 : decode cFu_askInput 56 = .ok (.iload 7, 2) := by decide +kernel
theorem dFu_askInput_58 : decode cFu_askInput 58 = .ok (.iload_n 3, 1) := by decide +kernel
theorem dFu_askInput_59 : decode cFu_askInput 59 = .ok (.if_icmp .ne 22, 3) := by decide +kernel
theorem dFu_askInput_62 : decode cFu_askInput 62 = .ok (.aload_n 0, 1) := by decide +kernel
theorem dFu_askInput_63 : decode cFu_askInput 63 = .ok (.getfield 19, 3) := by decide +kernel
theorem dFu_askInput_66 : decode cFu_askInput 66 = .ok (.iload_n 3, 1) := by decide +kernel
theorem dFu_askInput_67 : decode cFu_askInput 67 = .ok (.iload 5, 2) := by decide +kernel
theorem dFu_askInput_69 : decode cFu_askInput 69 = .ok (.iastore, 1) := by decide +kernel
theorem dFu_askInput_70 : decode cFu_askInput 70 = .ok (.aload_n 0, 1) := by decide +kernel
theorem dFu_askInput_71 : decode cFu_askInput 71 = .ok (.getfield 22, 3) := by decide +kernel
theorem dFu_askInput_74 : decode cFu_askInput 74 = .ok (.iload_n 3, 1) := by decide +kernel
theorem dFu_askInput_75 : decode cFu_askInput 75 = .ok (.iload 6, 2) := by decide +kernel
theorem dFu_askInput_77 : decode cFu_askInput 77 = .ok (.iastore, 1) := by decide +kernel
theorem dFu_askInput_78 : decode cFu_askInput 78 = .ok (.iinc 3 1, 3) := by decide +kernel
theorem dFu_askInput_81 : decode cFu_askInput 81 = .ok (.aload_n 0, 1) := by decide +kernel
theorem dFu_askInput_82 : decode cFu_askInput 82 = .ok (.getfield 15, 3) := by decide +kernel
theorem dFu_askInput_85 : decode cFu_askInput 85 = .ok (.iload 4, 2) := by decide +kernel
theorem dFu_askInput_87 : decode cFu_askInput 87 = .ok (.iload_n 2, 1) := by decide +kernel
theorem dFu_askInput_88 : decode cFu_askInput 88 = .ok (.iload 7, 2) := by decide +kernel
theorem dFu_askInput_90 : decode cFu_askInput 90 = .ok (.iadd, 1) := by decide +kernel
theorem dFu_askInput_91 : decode cFu_askInput 91 = .ok (.iastore, 1) := by decide +kernel
theorem dFu_askInput_92 : decode cFu_askInput 92 = .ok (.iinc 4 1, 3) := by decide +kernel
theorem dFu_askInput_95 : decode cFu_askInput 95 = .ok (.goto (-90), 3) := by decide +kernel
theorem dFu_askInput_98 : decode cFu_askInput 98 = .ok (.iload_n 3, 1) := by decide +kernel
theorem dFu_askInput_99 : decode cFu_askInput 99 = .ok (.ireturn, 1) := by decide +kernel
theorem wv_1424 : Cond.methodLink "CellForge$Functions" 74 (⟨"CellForge$Functions", "questionOf", "(III)I"⟩ : MethodName) ∈ cfB := cf_in 1424 (by decide +kernel) rfl
theorem wv_1427 : Cond.code (⟨"CellForge$Functions", "questionOf", "(III)I"⟩ : MethodName) prog_5_method_12_code 5 (Option.some Jvm.ClassFile.FieldType.int) ∈ cfB := cf_in 1427 (by decide +kernel) rfl
theorem wv_1426 : Cond.instanceMethod (⟨"CellForge$Functions", "questionOf", "(III)I"⟩ : MethodName) ∈ cfB := cf_in 1426 (by decide +kernel) rfl
theorem wv_50 : Cond.selects "CellForge$Functions" (⟨"CellForge$Functions", "questionOf", "(III)I"⟩ : MethodName) (⟨"CellForge$Functions", "questionOf", "(III)I"⟩ : MethodName) ∈ cfB := cf_in 50 (by decide +kernel) rfl
def yFu_questions : MethodName := ⟨"CellForge$Functions", "questions", "(II)I"⟩
abbrev cFu_questions : ByteArray := prog_5_method_10_code
theorem dFu_questions_0 : decode cFu_questions 0 = .ok (.iconst 0, 1) := by decide +kernel
theorem dFu_questions_1 : decode cFu_questions 1 = .ok (.istore_n 3, 1) := by decide +kernel
theorem dFu_questions_2 : decode cFu_questions 2 = .ok (.iload_n 3, 1) := by decide +kernel
theorem dFu_questions_3 : decode cFu_questions 3 = .ok (.iconst 1, 1) := by decide +kernel
theorem dFu_questions_4 : decode cFu_questions 4 = .ok (.iload_n 2, 1) := by decide +kernel
theorem dFu_questions_5 : decode cFu_questions 5 = .ok (.ishl, 1) := by decide +kernel
theorem dFu_questions_6 : decode cFu_questions 6 = .ok (.if_icmp .ge 21, 3) := by decide +kernel
theorem dFu_questions_9 : decode cFu_questions 9 = .ok (.aload_n 0, 1) := by decide +kernel
theorem dFu_questions_10 : decode cFu_questions 10 = .ok (.getfield 15, 3) := by decide +kernel
theorem dFu_questions_13 : decode cFu_questions 13 = .ok (.iload_n 3, 1) := by decide +kernel
theorem dFu_questions_14 : decode cFu_questions 14 = .ok (.aload_n 0, 1) := by decide +kernel
theorem dFu_questions_15 : decode cFu_questions 15 = .ok (.iload_n 1, 1) := by decide +kernel
theorem dFu_questions_16 : decode cFu_questions 16 = .ok (.iload_n 3, 1) := by decide +kernel
theorem dFu_questions_17 : decode cFu_questions 17 = .ok (.invokevirtual 68, 3) := by decide +kernel
theorem dFu_questions_20 : decode cFu_questions 20 = .ok (.iastore, 1) := by decide +kernel
theorem dFu_questions_21 : decode cFu_questions 21 = .ok (.iinc 3 1, 3) := by decide +kernel
theorem dFu_questions_24 : decode cFu_questions 24 = .ok (.goto (-22), 3) := by decide +kernel
theorem dFu_questions_27 : decode cFu_questions 27 = .ok (.iconst 0, 1) := by decide +kernel
theorem dFu_questions_28 : decode cFu_questions 28 = .ok (.istore_n 3, 1) := by decide +kernel
theorem dFu_questions_29 : decode cFu_questions 29 = .ok (.iload_n 2, 1) := by decide +kernel
theorem dFu_questions_30 : decode cFu_questions 30 = .ok (.iconst 1, 1) := by decide +kernel
theorem dFu_questions_31 : decode cFu_questions 31 = .ok (.isub, 1) := by decide +kernel
theorem dFu_questions_32 : decode cFu_questions 32 = .ok (.istore 4, 2) := by decide +kernel
theorem dFu_questions_34 : decode cFu_questions 34 = .ok (.iload 4, 2) := by decide +kernel
theorem dFu_questions_36 : decode cFu_questions 36 = .ok (.ifCond .lt 21, 3) := by decide +kernel
theorem dFu_questions_39 : decode cFu_questions 39 = .ok (.iload_n 3, 1) := by decide +kernel
theorem dFu_questions_40 : decode cFu_questions 40 = .ok (.aload_n 0, 1) := by decide +kernel
theorem dFu_questions_41 : decode cFu_questions 41 = .ok (.iload 4, 2) := by decide +kernel
theorem dFu_questions_43 : decode cFu_questions 43 = .ok (.iload_n 3, 1) := by decide +kernel
theorem dFu_questions_44 : decode cFu_questions 44 = .ok (.iconst 2, 1) := by decide +kernel
theorem dFu_questions_45 : decode cFu_questions 45 = .ok (.iadd, 1) := by decide +kernel
theorem dFu_questions_46 : decode cFu_questions 46 = .ok (.invokevirtual 71, 3) := by decide +kernel
theorem dFu_questions_49 : decode cFu_questions 49 = .ok (.iadd, 1) := by decide +kernel
theorem dFu_questions_50 : decode cFu_questions 50 = .ok (.istore_n 3, 1) := by decide +kernel
theorem dFu_questions_51 : decode cFu_questions 51 = .ok (.iinc 4 (-1), 3) := by decide +kernel
theorem dFu_questions_54 : decode cFu_questions 54 = .ok (.goto (-20), 3) := by decide +kernel
theorem dFu_questions_57 : decode cFu_questions 57 = .ok (.iload_n 3, 1) := by decide +kernel
theorem dFu_questions_58 : decode cFu_questions 58 = .ok (.ireturn, 1) := by decide +kernel
theorem wv_1420 : Cond.methodLink "CellForge$Functions" 71 (⟨"CellForge$Functions", "askInput", "(II)I"⟩ : MethodName) ∈ cfB := cf_in 1420 (by decide +kernel) rfl
theorem wv_1423 : Cond.code (⟨"CellForge$Functions", "askInput", "(II)I"⟩ : MethodName) prog_5_method_11_code 8 (Option.some Jvm.ClassFile.FieldType.int) ∈ cfB := cf_in 1423 (by decide +kernel) rfl
theorem wv_1422 : Cond.instanceMethod (⟨"CellForge$Functions", "askInput", "(II)I"⟩ : MethodName) ∈ cfB := cf_in 1422 (by decide +kernel) rfl
theorem wv_49 : Cond.selects "CellForge$Functions" (⟨"CellForge$Functions", "askInput", "(II)I"⟩ : MethodName) (⟨"CellForge$Functions", "askInput", "(II)I"⟩ : MethodName) ∈ cfB := cf_in 49 (by decide +kernel) rfl
def yGr_restart : MethodName := ⟨"CellForge$Graph", "restart", "(II)V"⟩
abbrev cGr_restart : ByteArray := prog_6_method_2_code
theorem dGr_restart_0 : decode cGr_restart 0 = .ok (.aload_n 0, 1) := by decide +kernel
theorem dGr_restart_1 : decode cGr_restart 1 = .ok (.iload_n 1, 1) := by decide +kernel
theorem dGr_restart_2 : decode cGr_restart 2 = .ok (.putfield 30, 3) := by decide +kernel
theorem dGr_restart_5 : decode cGr_restart 5 = .ok (.aload_n 0, 1) := by decide +kernel
theorem dGr_restart_6 : decode cGr_restart 6 = .ok (.iload_n 2, 1) := by decide +kernel
theorem dGr_restart_7 : decode cGr_restart 7 = .ok (.putfield 34, 3) := by decide +kernel
theorem dGr_restart_10 : decode cGr_restart 10 = .ok (.aload_n 0, 1) := by decide +kernel
theorem dGr_restart_11 : decode cGr_restart 11 = .ok (.iconst 0, 1) := by decide +kernel
theorem dGr_restart_12 : decode cGr_restart 12 = .ok (.putfield 37, 3) := by decide +kernel
theorem dGr_restart_15 : decode cGr_restart 15 = .ok (.aload_n 0, 1) := by decide +kernel
theorem dGr_restart_16 : decode cGr_restart 16 = .ok (.iconst 0, 1) := by decide +kernel
theorem dGr_restart_17 : decode cGr_restart 17 = .ok (.putfield 40, 3) := by decide +kernel
theorem dGr_restart_20 : decode cGr_restart 20 = .ok (.aload_n 0, 1) := by decide +kernel
theorem dGr_restart_21 : decode cGr_restart 21 = .ok (.getfield 24, 3) := by decide +kernel
theorem dGr_restart_24 : decode cGr_restart 24 = .ok (.iconst 0, 1) := by decide +kernel
theorem dGr_restart_25 : decode cGr_restart 25 = .ok (.invokestatic 44, 3) := by decide +kernel
theorem dGr_restart_28 : decode cGr_restart 28 = .ok (.aload_n 0, 1) := by decide +kernel
theorem dGr_restart_29 : decode cGr_restart 29 = .ok (.getfield 18, 3) := by decide +kernel
theorem dGr_restart_32 : decode cGr_restart 32 = .ok (.iconst 0, 1) := by decide +kernel
theorem dGr_restart_33 : decode cGr_restart 33 = .ok (.invokestatic 44, 3) := by decide +kernel
theorem dGr_restart_36 : decode cGr_restart 36 = .ok (.return_, 1) := by decide +kernel
theorem wv_551 : Cond.fieldLink "CellForge$Graph" 34 "CellForge$Graph" "outputs" "I" ∈ cfB := cf_in 551 (by decide +kernel) rfl
theorem wv_558 : Cond.fieldLink "CellForge$Graph" 40 "CellForge$Graph" "full" "Z" ∈ cfB := cf_in 558 (by decide +kernel) rfl
theorem wv_1040 : Cond.methodLink "CellForge$Graph" 44 (⟨"java/util/Arrays", "fill", "([II)V"⟩ : MethodName) ∈ cfB := cf_in 1040 (by decide +kernel) rfl
def yGr_greatestLevel : MethodName := ⟨"CellForge$Graph", "greatestLevel", "()I"⟩
abbrev cGr_greatestLevel : ByteArray := prog_6_method_5_code
theorem dGr_greatestLevel_0 : decode cGr_greatestLevel 0 = .ok (.iconst 0, 1) := by decide +kernel
theorem dGr_greatestLevel_1 : decode cGr_greatestLevel 1 = .ok (.istore_n 1, 1) := by decide +kernel
theorem dGr_greatestLevel_2 : decode cGr_greatestLevel 2 = .ok (.iconst 0, 1) := by decide +kernel
theorem dGr_greatestLevel_3 : decode cGr_greatestLevel 3 = .ok (.istore_n 2, 1) := by decide +kernel
theorem dGr_greatestLevel_4 : decode cGr_greatestLevel 4 = .ok (.iload_n 2, 1) := by decide +kernel
theorem dGr_greatestLevel_5 : decode cGr_greatestLevel 5 = .ok (.aload_n 0, 1) := by decide +kernel
theorem dGr_greatestLevel_6 : decode cGr_greatestLevel 6 = .ok (.getfield 34, 3) := by decide +kernel
theorem dGr_greatestLevel_9 : decode cGr_greatestLevel 9 = .ok (.if_icmp .ge 27, 3) := by decide +kernel
theorem dGr_greatestLevel_12 : decode cGr_greatestLevel 12 = .ok (.iload_n 1, 1) := by decide +kernel
theorem dGr_greatestLevel_13 : decode cGr_greatestLevel 13 = .ok (.aload_n 0, 1) := by decide +kernel
theorem dGr_greatestLevel_14 : decode cGr_greatestLevel 14 = .ok (.getfield 18, 3) := by decide +kernel
theorem dGr_greatestLevel_17 : decode cGr_greatestLevel 17 = .ok (.aload_n 0, 1) := by decide +kernel
theorem dGr_greatestLevel_18 : decode cGr_greatestLevel 18 = .ok (.getfield 21, 3) := by decide +kernel
theorem dGr_greatestLevel_21 : decode cGr_greatestLevel 21 = .ok (.iload_n 2, 1) := by decide +kernel
theorem dGr_greatestLevel_22 : decode cGr_greatestLevel 22 = .ok (.iaload, 1) := by decide +kernel
theorem dGr_greatestLevel_23 : decode cGr_greatestLevel 23 = .ok (.iconst 1, 1) := by decide +kernel
theorem dGr_greatestLevel_24 : decode cGr_greatestLevel 24 = .ok (.ishr, 1) := by decide +kernel
theorem dGr_greatestLevel_25 : decode cGr_greatestLevel 25 = .ok (.iaload, 1) := by decide +kernel
theorem dGr_greatestLevel_26 : decode cGr_greatestLevel 26 = .ok (.invokestatic 54, 3) := by decide +kernel
theorem dGr_greatestLevel_29 : decode cGr_greatestLevel 29 = .ok (.istore_n 1, 1) := by decide +kernel
theorem dGr_greatestLevel_30 : decode cGr_greatestLevel 30 = .ok (.iinc 2 1, 3) := by decide +kernel
theorem dGr_greatestLevel_33 : decode cGr_greatestLevel 33 = .ok (.goto (-29), 3) := by decide +kernel
theorem dGr_greatestLevel_36 : decode cGr_greatestLevel 36 = .ok (.iload_n 1, 1) := by decide +kernel
theorem dGr_greatestLevel_37 : decode cGr_greatestLevel 37 = .ok (.ireturn, 1) := by decide +kernel
theorem wv_1061 : Cond.methodLink "CellForge$Graph" 54 (⟨"java/lang/Math", "max", "(II)I"⟩ : MethodName) ∈ cfB := cf_in 1061 (by decide +kernel) rfl
def yGr_gateThere : MethodName := ⟨"CellForge$Graph", "gateThere", "(II)I"⟩
abbrev cGr_gateThere : ByteArray := prog_6_method_8_code
theorem dGr_gateThere_0 : decode cGr_gateThere 0 = .ok (.aload_n 0, 1) := by decide +kernel
theorem dGr_gateThere_1 : decode cGr_gateThere 1 = .ok (.getfield 24, 3) := by decide +kernel
theorem dGr_gateThere_4 : decode cGr_gateThere 4 = .ok (.iload_n 1, 1) := by decide +kernel
theorem dGr_gateThere_5 : decode cGr_gateThere 5 = .ok (.iaload, 1) := by decide +kernel
theorem dGr_gateThere_6 : decode cGr_gateThere 6 = .ok (.istore_n 3, 1) := by decide +kernel
theorem dGr_gateThere_7 : decode cGr_gateThere 7 = .ok (.iconst 0, 1) := by decide +kernel
theorem dGr_gateThere_8 : decode cGr_gateThere 8 = .ok (.istore 4, 2) := by decide +kernel
theorem dGr_gateThere_10 : decode cGr_gateThere 10 = .ok (.iload 4, 2) := by decide +kernel
theorem dGr_gateThere_12 : decode cGr_gateThere 12 = .ok (.sipush 200, 3) := by decide +kernel
theorem dGr_gateThere_15 : decode cGr_gateThere 15 = .ok (.if_icmp .ge 30, 3) := by decide +kernel
theorem dGr_gateThere_18 : decode cGr_gateThere 18 = .ok (.iload_n 3, 1) := by decide +kernel
theorem dGr_gateThere_19 : decode cGr_gateThere 19 = .ok (.ifCond .eq 26, 3) := by decide +kernel
theorem dGr_gateThere_22 : decode cGr_gateThere 22 = .ok (.aload_n 0, 1) := by decide +kernel
theorem dGr_gateThere_23 : decode cGr_gateThere 23 = .ok (.getfield 15, 3) := by decide +kernel
theorem dGr_gateThere_26 : decode cGr_gateThere 26 = .ok (.iload_n 3, 1) := by decide +kernel
theorem dGr_gateThere_27 : decode cGr_gateThere 27 = .ok (.iaload, 1) := by decide +kernel
theorem dGr_gateThere_28 : decode cGr_gateThere 28 = .ok (.iload_n 2, 1) := by decide +kernel
theorem dGr_gateThere_29 : decode cGr_gateThere 29 = .ok (.if_icmp .eq 16, 3) := by decide +kernel
theorem dGr_gateThere_32 : decode cGr_gateThere 32 = .ok (.aload_n 0, 1) := by decide +kernel
theorem dGr_gateThere_33 : decode cGr_gateThere 33 = .ok (.getfield 27, 3) := by decide +kernel
theorem dGr_gateThere_36 : decode cGr_gateThere 36 = .ok (.iload_n 3, 1) := by decide +kernel
theorem dGr_gateThere_37 : decode cGr_gateThere 37 = .ok (.iaload, 1) := by decide +kernel
theorem dGr_gateThere_38 : decode cGr_gateThere 38 = .ok (.istore_n 3, 1) := by decide +kernel
theorem dGr_gateThere_39 : decode cGr_gateThere 39 = .ok (.iinc 4 1, 3) := by decide +kernel
theorem dGr_gateThere_42 : decode cGr_gateThere 42 = .ok (.goto (-32), 3) := by decide +kernel
theorem dGr_gateThere_45 : decode cGr_gateThere 45 = .ok (.iload_n 3, 1) := by decide +kernel
theorem dGr_gateThere_46 : decode cGr_gateThere 46 = .ok (.ireturn, 1) := by decide +kernel
def yGr_newGate : MethodName := ⟨"CellForge$Graph", "newGate", "(II)I"⟩
abbrev cGr_newGate : ByteArray := prog_6_method_9_code
theorem dGr_newGate_0 : decode cGr_newGate 0 = .ok (.aload_n 0, 1) := by decide +kernel
theorem dGr_newGate_1 : decode cGr_newGate 1 = .ok (.getfield 37, 3) := by decide +kernel
theorem dGr_newGate_4 : decode cGr_newGate 4 = .ok (.sipush 200, 3) := by decide +kernel
theorem dGr_newGate_7 : decode cGr_newGate 7 = .ok (.if_icmp .ne 10, 3) := by decide +kernel
theorem dGr_newGate_10 : decode cGr_newGate 10 = .ok (.aload_n 0, 1) := by decide +kernel
theorem dGr_newGate_11 : decode cGr_newGate 11 = .ok (.iconst 1, 1) := by decide +kernel
theorem dGr_newGate_12 : decode cGr_newGate 12 = .ok (.putfield 40, 3) := by decide +kernel
theorem dGr_newGate_15 : decode cGr_newGate 15 = .ok (.iconst 0, 1) := by decide +kernel
theorem dGr_newGate_16 : decode cGr_newGate 16 = .ok (.ireturn, 1) := by decide +kernel
theorem dGr_newGate_17 : decode cGr_newGate 17 = .ok (.aload_n 0, 1) := by decide +kernel
theorem dGr_newGate_18 : decode cGr_newGate 18 = .ok (.invokevirtual 50, 3) := by decide +kernel
theorem dGr_newGate_21 : decode cGr_newGate 21 = .ok (.istore_n 3, 1) := by decide +kernel
theorem dGr_newGate_22 : decode cGr_newGate 22 = .ok (.aload_n 0, 1) := by decide +kernel
theorem dGr_newGate_23 : decode cGr_newGate 23 = .ok (.dup, 1) := by decide +kernel
theorem dGr_newGate_24 : decode cGr_newGate 24 = .ok (.getfield 37, 3) := by decide +kernel
theorem dGr_newGate_27 : decode cGr_newGate 27 = .ok (.iconst 1, 1) := by decide +kernel
theorem dGr_newGate_28 : decode cGr_newGate 28 = .ok (.iadd, 1) := by decide +kernel
theorem dGr_newGate_29 : decode cGr_newGate 29 = .ok (.putfield 37, 3) := by decide +kernel
theorem dGr_newGate_32 : decode cGr_newGate 32 = .ok (.aload_n 0, 1) := by decide +kernel
theorem dGr_newGate_33 : decode cGr_newGate 33 = .ok (.getfield 9, 3) := by decide +kernel
theorem dGr_newGate_36 : decode cGr_newGate 36 = .ok (.iload_n 3, 1) := by decide +kernel
theorem dGr_newGate_37 : decode cGr_newGate 37 = .ok (.iload_n 1, 1) := by decide +kernel
theorem dGr_newGate_38 : decode cGr_newGate 38 = .ok (.iastore, 1) := by decide +kernel
theorem dGr_newGate_39 : decode cGr_newGate 39 = .ok (.aload_n 0, 1) := by decide +kernel
theorem dGr_newGate_40 : decode cGr_newGate 40 = .ok (.getfield 15, 3) := by decide +kernel
theorem dGr_newGate_43 : decode cGr_newGate 43 = .ok (.iload_n 3, 1) := by decide +kernel
theorem dGr_newGate_44 : decode cGr_newGate 44 = .ok (.iload_n 2, 1) := by decide +kernel
theorem dGr_newGate_45 : decode cGr_newGate 45 = .ok (.iastore, 1) := by decide +kernel
theorem dGr_newGate_46 : decode cGr_newGate 46 = .ok (.aload_n 0, 1) := by decide +kernel
theorem dGr_newGate_47 : decode cGr_newGate 47 = .ok (.getfield 18, 3) := by decide +kernel
theorem dGr_newGate_50 : decode cGr_newGate 50 = .ok (.iload_n 3, 1) := by decide +kernel
theorem dGr_newGate_51 : decode cGr_newGate 51 = .ok (.iconst 1, 1) := by decide +kernel
theorem dGr_newGate_52 : decode cGr_newGate 52 = .ok (.aload_n 0, 1) := by decide +kernel
theorem dGr_newGate_53 : decode cGr_newGate 53 = .ok (.getfield 18, 3) := by decide +kernel
theorem dGr_newGate_56 : decode cGr_newGate 56 = .ok (.iload_n 1, 1) := by decide +kernel
theorem dGr_newGate_57 : decode cGr_newGate 57 = .ok (.iconst 1, 1) := by decide +kernel
theorem dGr_newGate_58 : decode cGr_newGate 58 = .ok (.ishr, 1) := by decide +kernel
theorem dGr_newGate_59 : decode cGr_newGate 59 = .ok (.iaload, 1) := by decide +kernel
theorem dGr_newGate_60 : decode cGr_newGate 60 = .ok (.aload_n 0, 1) := by decide +kernel
theorem dGr_newGate_61 : decode cGr_newGate 61 = .ok (.getfield 18, 3) := by decide +kernel
theorem dGr_newGate_64 : decode cGr_newGate 64 = .ok (.iload_n 2, 1) := by decide +kernel
theorem dGr_newGate_65 : decode cGr_newGate 65 = .ok (.iconst 1, 1) := by decide +kernel
theorem dGr_newGate_66 : decode cGr_newGate 66 = .ok (.ishr, 1) := by decide +kernel
theorem dGr_newGate_67 : decode cGr_newGate 67 = .ok (.iaload, 1) := by decide +kernel
theorem dGr_newGate_68 : decode cGr_newGate 68 = .ok (.invokestatic 54, 3) := by decide +kernel
theorem dGr_newGate_71 : decode cGr_newGate 71 = .ok (.iadd, 1) := by decide +kernel
theorem dGr_newGate_72 : decode cGr_newGate 72 = .ok (.iastore, 1) := by decide +kernel
theorem dGr_newGate_73 : decode cGr_newGate 73 = .ok (.aload_n 0, 1) := by decide +kernel
theorem dGr_newGate_74 : decode cGr_newGate 74 = .ok (.getfield 27, 3) := by decide +kernel
theorem dGr_newGate_77 : decode cGr_newGate 77 = .ok (.iload_n 3, 1) := by decide +kernel
theorem dGr_newGate_78 : decode cGr_newGate 78 = .ok (.aload_n 0, 1) := by decide +kernel
theorem dGr_newGate_79 : decode cGr_newGate 79 = .ok (.getfield 24, 3) := by decide +kernel
theorem dGr_newGate_82 : decode cGr_newGate 82 = .ok (.iload_n 1, 1) := by decide +kernel
theorem dGr_newGate_83 : decode cGr_newGate 83 = .ok (.iaload, 1) := by decide +kernel
theorem dGr_newGate_84 : decode cGr_newGate 84 = .ok (.iastore, 1) := by decide +kernel
theorem dGr_newGate_85 : decode cGr_newGate 85 = .ok (.aload_n 0, 1) := by decide +kernel
theorem dGr_newGate_86 : decode cGr_newGate 86 = .ok (.getfield 24, 3) := by decide +kernel
theorem dGr_newGate_89 : decode cGr_newGate 89 = .ok (.iload_n 1, 1) := by decide +kernel
theorem dGr_newGate_90 : decode cGr_newGate 90 = .ok (.iload_n 3, 1) := by decide +kernel
theorem dGr_newGate_91 : decode cGr_newGate 91 = .ok (.iastore, 1) := by decide +kernel
theorem dGr_newGate_92 : decode cGr_newGate 92 = .ok (.iload_n 3, 1) := by decide +kernel
theorem dGr_newGate_93 : decode cGr_newGate 93 = .ok (.ireturn, 1) := by decide +kernel
def yGr_and : MethodName := ⟨"CellForge$Graph", "and", "(II)I"⟩
abbrev cGr_and : ByteArray := prog_6_method_7_code
theorem dGr_and_0 : decode cGr_and 0 = .ok (.iload_n 1, 1) := by decide +kernel
theorem dGr_and_1 : decode cGr_and 1 = .ok (.iload_n 2, 1) := by decide +kernel
theorem dGr_and_2 : decode cGr_and 2 = .ok (.invokestatic 63, 3) := by decide +kernel
theorem dGr_and_5 : decode cGr_and 5 = .ok (.istore_n 3, 1) := by decide +kernel
theorem dGr_and_6 : decode cGr_and 6 = .ok (.iload_n 1, 1) := by decide +kernel
theorem dGr_and_7 : decode cGr_and 7 = .ok (.iload_n 2, 1) := by decide +kernel
theorem dGr_and_8 : decode cGr_and 8 = .ok (.invokestatic 54, 3) := by decide +kernel
theorem dGr_and_11 : decode cGr_and 11 = .ok (.istore 4, 2) := by decide +kernel
theorem dGr_and_13 : decode cGr_and 13 = .ok (.iload_n 3, 1) := by decide +kernel
theorem dGr_and_14 : decode cGr_and 14 = .ok (.ifCond .eq 9, 3) := by decide +kernel
theorem dGr_and_17 : decode cGr_and 17 = .ok (.iload_n 3, 1) := by decide +kernel
theorem dGr_and_18 : decode cGr_and 18 = .ok (.iload 4, 2) := by decide +kernel
theorem dGr_and_20 : decode cGr_and 20 = .ok (.if_icmp .ne 5, 3) := by decide +kernel
theorem dGr_and_23 : decode cGr_and 23 = .ok (.iload_n 3, 1) := by decide +kernel
theorem dGr_and_24 : decode cGr_and 24 = .ok (.ireturn, 1) := by decide +kernel
theorem dGr_and_25 : decode cGr_and 25 = .ok (.iload_n 3, 1) := by decide +kernel
theorem dGr_and_26 : decode cGr_and 26 = .ok (.iconst 1, 1) := by decide +kernel
theorem dGr_and_27 : decode cGr_and 27 = .ok (.if_icmp .ne 6, 3) := by decide +kernel
theorem dGr_and_30 : decode cGr_and 30 = .ok (.iload 4, 2) := by decide +kernel
theorem dGr_and_32 : decode cGr_and 32 = .ok (.ireturn, 1) := by decide +kernel
theorem dGr_and_33 : decode cGr_and 33 = .ok (.iload_n 3, 1) := by decide +kernel
theorem dGr_and_34 : decode cGr_and 34 = .ok (.iconst 1, 1) := by decide +kernel
theorem dGr_and_35 : decode cGr_and 35 = .ok (.ixor, 1) := by decide +kernel
theorem dGr_and_36 : decode cGr_and 36 = .ok (.iload 4, 2) := by decide +kernel
theorem dGr_and_38 : decode cGr_and 38 = .ok (.if_icmp .ne 5, 3) := by decide +kernel
theorem dGr_and_41 : decode cGr_and 41 = .ok (.iconst 0, 1) := by decide +kernel
theorem dGr_and_42 : decode cGr_and 42 = .ok (.ireturn, 1) := by decide +kernel
theorem dGr_and_43 : decode cGr_and 43 = .ok (.aload_n 0, 1) := by decide +kernel
theorem dGr_and_44 : decode cGr_and 44 = .ok (.iload_n 3, 1) := by decide +kernel
theorem dGr_and_45 : decode cGr_and 45 = .ok (.iload 4, 2) := by decide +kernel
theorem dGr_and_47 : decode cGr_and 47 = .ok (.invokevirtual 66, 3) := by decide +kernel
theorem dGr_and_50 : decode cGr_and 50 = .ok (.istore 5, 2) := by decide +kernel
theorem dGr_and_52 : decode cGr_and 52 = .ok (.iconst 2, 1) := by decide +kernel
theorem dGr_and_53 : decode cGr_and 53 = .ok (.iload 5, 2) := by decide +kernel
theorem dGr_and_55 : decode cGr_and 55 = .ok (.ifCond .eq 8, 3) := by decide +kernel
theorem dGr_and_58 : decode cGr_and 58 = .ok (.iload 5, 2) := by decide +kernel
theorem dGr_and_60 : decode cGr_and 60 = .ok (.goto 10, 3) := by decide +kernel
theorem dGr_and_63 : decode cGr_and 63 = .ok (.aload_n 0, 1) := by decide +kernel
theorem dGr_and_64 : decode cGr_and 64 = .ok (.iload_n 3, 1) := by decide +kernel
theorem dGr_and_65 : decode cGr_and 65 = .ok (.iload 4, 2) := by decide +kernel
theorem dGr_and_67 : decode cGr_and 67 = .ok (.invokevirtual 69, 3) := by decide +kernel
theorem dGr_and_70 : decode cGr_and 70 = .ok (.imul, 1) := by decide +kernel
theorem dGr_and_71 : decode cGr_and 71 = .ok (.ireturn, 1) := by decide +kernel
theorem wv_1058 : Cond.methodLink "CellForge$Graph" 63 (⟨"java/lang/Math", "min", "(II)I"⟩ : MethodName) ∈ cfB := cf_in 1058 (by decide +kernel) rfl
theorem wv_1064 : Cond.methodLink "CellForge$Graph" 66 (⟨"CellForge$Graph", "gateThere", "(II)I"⟩ : MethodName) ∈ cfB := cf_in 1064 (by decide +kernel) rfl
theorem wv_1067 : Cond.code (⟨"CellForge$Graph", "gateThere", "(II)I"⟩ : MethodName) prog_6_method_8_code 5 (Option.some Jvm.ClassFile.FieldType.int) ∈ cfB := cf_in 1067 (by decide +kernel) rfl
theorem wv_1066 : Cond.instanceMethod (⟨"CellForge$Graph", "gateThere", "(II)I"⟩ : MethodName) ∈ cfB := cf_in 1066 (by decide +kernel) rfl
theorem wv_22 : Cond.selects "CellForge$Graph" (⟨"CellForge$Graph", "gateThere", "(II)I"⟩ : MethodName) (⟨"CellForge$Graph", "gateThere", "(II)I"⟩ : MethodName) ∈ cfB := cf_in 22 (by decide +kernel) rfl
theorem wv_1068 : Cond.methodLink "CellForge$Graph" 69 (⟨"CellForge$Graph", "newGate", "(II)I"⟩ : MethodName) ∈ cfB := cf_in 1068 (by decide +kernel) rfl
theorem wv_1071 : Cond.code (⟨"CellForge$Graph", "newGate", "(II)I"⟩ : MethodName) prog_6_method_9_code 4 (Option.some Jvm.ClassFile.FieldType.int) ∈ cfB := cf_in 1071 (by decide +kernel) rfl
theorem wv_1070 : Cond.instanceMethod (⟨"CellForge$Graph", "newGate", "(II)I"⟩ : MethodName) ∈ cfB := cf_in 1070 (by decide +kernel) rfl
theorem wv_23 : Cond.selects "CellForge$Graph" (⟨"CellForge$Graph", "newGate", "(II)I"⟩ : MethodName) (⟨"CellForge$Graph", "newGate", "(II)I"⟩ : MethodName) ∈ cfB := cf_in 23 (by decide +kernel) rfl
def yGr_or : MethodName := ⟨"CellForge$Graph", "or", "(II)I"⟩
abbrev cGr_or : ByteArray := prog_6_method_6_code
theorem dGr_or_0 : decode cGr_or 0 = .ok (.aload_n 0, 1) := by decide +kernel
theorem dGr_or_1 : decode cGr_or 1 = .ok (.iload_n 1, 1) := by decide +kernel
theorem dGr_or_2 : decode cGr_or 2 = .ok (.iconst 1, 1) := by decide +kernel
theorem dGr_or_3 : decode cGr_or 3 = .ok (.ixor, 1) := by decide +kernel
theorem dGr_or_4 : decode cGr_or 4 = .ok (.iload_n 2, 1) := by decide +kernel
theorem dGr_or_5 : decode cGr_or 5 = .ok (.iconst 1, 1) := by decide +kernel
theorem dGr_or_6 : decode cGr_or 6 = .ok (.ixor, 1) := by decide +kernel
theorem dGr_or_7 : decode cGr_or 7 = .ok (.invokevirtual 60, 3) := by decide +kernel
theorem dGr_or_10 : decode cGr_or 10 = .ok (.iconst 1, 1) := by decide +kernel
theorem dGr_or_11 : decode cGr_or 11 = .ok (.ixor, 1) := by decide +kernel
theorem dGr_or_12 : decode cGr_or 12 = .ok (.ireturn, 1) := by decide +kernel
theorem wv_1080 : Cond.methodLink "CellForge$Graph" 60 (⟨"CellForge$Graph", "and", "(II)I"⟩ : MethodName) ∈ cfB := cf_in 1080 (by decide +kernel) rfl
theorem wv_1057 : Cond.code (⟨"CellForge$Graph", "and", "(II)I"⟩ : MethodName) prog_6_method_7_code 6 (Option.some Jvm.ClassFile.FieldType.int) ∈ cfB := cf_in 1057 (by decide +kernel) rfl
theorem wv_1055 : Cond.instanceMethod (⟨"CellForge$Graph", "and", "(II)I"⟩ : MethodName) ∈ cfB := cf_in 1055 (by decide +kernel) rfl
theorem wv_1056 : Cond.selects "CellForge$Graph" (⟨"CellForge$Graph", "and", "(II)I"⟩ : MethodName) (⟨"CellForge$Graph", "and", "(II)I"⟩ : MethodName) ∈ cfB := cf_in 1056 (by decide +kernel) rfl
def yTx_rewind : MethodName := ⟨"CellForge$Text", "rewind", "()V"⟩
abbrev cTx_rewind : ByteArray := prog_12_method_4_code
theorem dTx_rewind_0 : decode cTx_rewind 0 = .ok (.aload_n 0, 1) := by decide +kernel
theorem dTx_rewind_1 : decode cTx_rewind 1 = .ok (.iconst 0, 1) := by decide +kernel
theorem dTx_rewind_2 : decode cTx_rewind 2 = .ok (.putfield 26, 3) := by decide +kernel
theorem dTx_rewind_5 : decode cTx_rewind 5 = .ok (.aload_n 0, 1) := by decide +kernel
theorem dTx_rewind_6 : decode cTx_rewind 6 = .ok (.iconst (-1), 1) := by decide +kernel
theorem dTx_rewind_7 : decode cTx_rewind 7 = .ok (.putfield 29, 3) := by decide +kernel
theorem dTx_rewind_10 : decode cTx_rewind 10 = .ok (.return_, 1) := by decide +kernel
theorem wv_216 : Cond.fieldLink "CellForge$Text" 26 "CellForge$Text" "next" "I" ∈ cfB := cf_in 216 (by decide +kernel) rfl
theorem wv_211 : Cond.fieldLink "CellForge$Text" 29 "CellForge$Text" "number" "I" ∈ cfB := cf_in 211 (by decide +kernel) rfl
def yTx_splitLine : MethodName := ⟨"CellForge$Text", "splitLine", "()V"⟩
abbrev cTx_splitLine : ByteArray := prog_12_method_6_code
theorem dTx_splitLine_0 : decode cTx_splitLine 0 = .ok (.iconst 1, 1) := by decide +kernel
theorem dTx_splitLine_1 : decode cTx_splitLine 1 = .ok (.istore_n 1, 1) := by decide +kernel
theorem dTx_splitLine_2 : decode cTx_splitLine 2 = .ok (.iconst 0, 1) := by decide +kernel
theorem dTx_splitLine_3 : decode cTx_splitLine 3 = .ok (.istore_n 2, 1) := by decide +kernel
theorem dTx_splitLine_4 : decode cTx_splitLine 4 = .ok (.aload_n 0, 1) := by decide +kernel
theorem dTx_splitLine_5 : decode cTx_splitLine 5 = .ok (.getfield 26, 3) := by decide +kernel
theorem dTx_splitLine_8 : decode cTx_splitLine 8 = .ok (.istore_n 3, 1) := by decide +kernel
theorem dTx_splitLine_9 : decode cTx_splitLine 9 = .ok (.aload_n 0, 1) := by decide +kernel
theorem dTx_splitLine_10 : decode cTx_splitLine 10 = .ok (.iconst 0, 1) := by decide +kernel
theorem dTx_splitLine_11 : decode cTx_splitLine 11 = .ok (.putfield 35, 3) := by decide +kernel
theorem dTx_splitLine_14 : decode cTx_splitLine 14 = .ok (.iload_n 3, 1) := by decide +kernel
theorem dTx_splitLine_15 : decode cTx_splitLine 15 = .ok (.aload_n 0, 1) := by decide +kernel
theorem dTx_splitLine_16 : decode cTx_splitLine 16 = .ok (.getfield 22, 3) := by decide +kernel
theorem dTx_splitLine_19 : decode cTx_splitLine 19 = .ok (.if_icmp .ge 123, 3) := by decide +kernel
theorem dTx_splitLine_22 : decode cTx_splitLine 22 = .ok (.aload_n 0, 1) := by decide +kernel
theorem dTx_splitLine_23 : decode cTx_splitLine 23 = .ok (.getfield 11, 3) := by decide +kernel
theorem dTx_splitLine_26 : decode cTx_splitLine 26 = .ok (.iload_n 3, 1) := by decide +kernel
theorem dTx_splitLine_27 : decode cTx_splitLine 27 = .ok (.baload, 1) := by decide +kernel
theorem dTx_splitLine_28 : decode cTx_splitLine 28 = .ok (.bipush 10, 2) := by decide +kernel
theorem dTx_splitLine_30 : decode cTx_splitLine 30 = .ok (.if_icmp .eq 112, 3) := by decide +kernel
theorem dTx_splitLine_33 : decode cTx_splitLine 33 = .ok (.iload_n 1, 1) := by decide +kernel
theorem dTx_splitLine_34 : decode cTx_splitLine 34 = .ok (.ifCond .eq 18, 3) := by decide +kernel
theorem dTx_splitLine_37 : decode cTx_splitLine 37 = .ok (.aload_n 0, 1) := by decide +kernel
theorem dTx_splitLine_38 : decode cTx_splitLine 38 = .ok (.getfield 11, 3) := by decide +kernel
theorem dTx_splitLine_41 : decode cTx_splitLine 41 = .ok (.iload_n 3, 1) := by decide +kernel
theorem dTx_splitLine_42 : decode cTx_splitLine 42 = .ok (.baload, 1) := by decide +kernel
theorem dTx_splitLine_43 : decode cTx_splitLine 43 = .ok (.bipush 35, 2) := by decide +kernel
theorem dTx_splitLine_45 : decode cTx_splitLine 45 = .ok (.if_icmp .eq 7, 3) := by decide +kernel
theorem dTx_splitLine_48 : decode cTx_splitLine 48 = .ok (.iconst 1, 1) := by decide +kernel
theorem dTx_splitLine_49 : decode cTx_splitLine 49 = .ok (.goto 4, 3) := by decide +kernel
theorem dTx_splitLine_52 : decode cTx_splitLine 52 = .ok (.iconst 0, 1) := by decide +kernel
theorem dTx_splitLine_53 : decode cTx_splitLine 53 = .ok (.istore_n 1, 1) := by decide +kernel
theorem dTx_splitLine_54 : decode cTx_splitLine 54 = .ok (.iload_n 1, 1) := by decide +kernel
theorem dTx_splitLine_55 : decode cTx_splitLine 55 = .ok (.ifCond .eq 18, 3) := by decide +kernel
theorem dTx_splitLine_58 : decode cTx_splitLine 58 = .ok (.aload_n 0, 1) := by decide +kernel
theorem dTx_splitLine_59 : decode cTx_splitLine 59 = .ok (.getfield 11, 3) := by decide +kernel
theorem dTx_splitLine_62 : decode cTx_splitLine 62 = .ok (.iload_n 3, 1) := by decide +kernel
theorem dTx_splitLine_63 : decode cTx_splitLine 63 = .ok (.baload, 1) := by decide +kernel
theorem dTx_splitLine_64 : decode cTx_splitLine 64 = .ok (.bipush 32, 2) := by decide +kernel
theorem dTx_splitLine_66 : decode cTx_splitLine 66 = .ok (.if_icmp .eq 7, 3) := by decide +kernel
theorem dTx_splitLine_69 : decode cTx_splitLine 69 = .ok (.iconst 1, 1) := by decide +kernel
theorem dTx_splitLine_70 : decode cTx_splitLine 70 = .ok (.goto 4, 3) := by decide +kernel
theorem dTx_splitLine_73 : decode cTx_splitLine 73 = .ok (.iconst 0, 1) := by decide +kernel
theorem dTx_splitLine_74 : decode cTx_splitLine 74 = .ok (.istore 4, 2) := by decide +kernel
theorem dTx_splitLine_76 : decode cTx_splitLine 76 = .ok (.iload 4, 2) := by decide +kernel
theorem dTx_splitLine_78 : decode cTx_splitLine 78 = .ok (.ifCond .eq 36, 3) := by decide +kernel
theorem dTx_splitLine_81 : decode cTx_splitLine 81 = .ok (.iload_n 2, 1) := by decide +kernel
theorem dTx_splitLine_82 : decode cTx_splitLine 82 = .ok (.ifCond .ne 32, 3) := by decide +kernel
theorem dTx_splitLine_85 : decode cTx_splitLine 85 = .ok (.aload_n 0, 1) := by decide +kernel
theorem dTx_splitLine_86 : decode cTx_splitLine 86 = .ok (.getfield 35, 3) := by decide +kernel
theorem dTx_splitLine_89 : decode cTx_splitLine 89 = .ok (.bipush 10, 2) := by decide +kernel
theorem dTx_splitLine_91 : decode cTx_splitLine 91 = .ok (.if_icmp .ge 23, 3) := by decide +kernel
theorem dTx_splitLine_94 : decode cTx_splitLine 94 = .ok (.aload_n 0, 1) := by decide +kernel
theorem dTx_splitLine_95 : decode cTx_splitLine 95 = .ok (.getfield 15, 3) := by decide +kernel
theorem dTx_splitLine_98 : decode cTx_splitLine 98 = .ok (.aload_n 0, 1) := by decide +kernel
theorem dTx_splitLine_99 : decode cTx_splitLine 99 = .ok (.getfield 35, 3) := by decide +kernel
theorem dTx_splitLine_102 : decode cTx_splitLine 102 = .ok (.iload_n 3, 1) := by decide +kernel
theorem dTx_splitLine_103 : decode cTx_splitLine 103 = .ok (.iastore, 1) := by decide +kernel
theorem dTx_splitLine_104 : decode cTx_splitLine 104 = .ok (.aload_n 0, 1) := by decide +kernel
theorem dTx_splitLine_105 : decode cTx_splitLine 105 = .ok (.dup, 1) := by decide +kernel
theorem dTx_splitLine_106 : decode cTx_splitLine 106 = .ok (.getfield 35, 3) := by decide +kernel
theorem dTx_splitLine_109 : decode cTx_splitLine 109 = .ok (.iconst 1, 1) := by decide +kernel
theorem dTx_splitLine_110 : decode cTx_splitLine 110 = .ok (.iadd, 1) := by decide +kernel
theorem dTx_splitLine_111 : decode cTx_splitLine 111 = .ok (.putfield 35, 3) := by decide +kernel
theorem dTx_splitLine_114 : decode cTx_splitLine 114 = .ok (.iload 4, 2) := by decide +kernel
theorem dTx_splitLine_116 : decode cTx_splitLine 116 = .ok (.ifCond .eq 17, 3) := by decide +kernel
theorem dTx_splitLine_119 : decode cTx_splitLine 119 = .ok (.aload_n 0, 1) := by decide +kernel
theorem dTx_splitLine_120 : decode cTx_splitLine 120 = .ok (.getfield 19, 3) := by decide +kernel
theorem dTx_splitLine_123 : decode cTx_splitLine 123 = .ok (.aload_n 0, 1) := by decide +kernel
theorem dTx_splitLine_124 : decode cTx_splitLine 124 = .ok (.getfield 35, 3) := by decide +kernel
theorem dTx_splitLine_127 : decode cTx_splitLine 127 = .ok (.iconst 1, 1) := by decide +kernel
theorem dTx_splitLine_128 : decode cTx_splitLine 128 = .ok (.isub, 1) := by decide +kernel
theorem dTx_splitLine_129 : decode cTx_splitLine 129 = .ok (.iload_n 3, 1) := by decide +kernel
theorem dTx_splitLine_130 : decode cTx_splitLine 130 = .ok (.iconst 1, 1) := by decide +kernel
theorem dTx_splitLine_131 : decode cTx_splitLine 131 = .ok (.iadd, 1) := by decide +kernel
theorem dTx_splitLine_132 : decode cTx_splitLine 132 = .ok (.iastore, 1) := by decide +kernel
theorem dTx_splitLine_133 : decode cTx_splitLine 133 = .ok (.iload 4, 2) := by decide +kernel
theorem dTx_splitLine_135 : decode cTx_splitLine 135 = .ok (.istore_n 2, 1) := by decide +kernel
theorem dTx_splitLine_136 : decode cTx_splitLine 136 = .ok (.iinc 3 1, 3) := by decide +kernel
theorem dTx_splitLine_139 : decode cTx_splitLine 139 = .ok (.goto (-125), 3) := by decide +kernel
theorem dTx_splitLine_142 : decode cTx_splitLine 142 = .ok (.aload_n 0, 1) := by decide +kernel
theorem dTx_splitLine_143 : decode cTx_splitLine 143 = .ok (.iload_n 3, 1) := by decide +kernel
theorem dTx_splitLine_144 : decode cTx_splitLine 144 = .ok (.iconst 1, 1) := by decide +kernel
theorem dTx_splitLine_145 : decode cTx_splitLine 145 = .ok (.iadd, 1) := by decide +kernel
theorem dTx_splitLine_146 : decode cTx_splitLine 146 = .ok (.putfield 26, 3) := by decide +kernel
theorem dTx_splitLine_149 : decode cTx_splitLine 149 = .ok (.return_, 1) := by decide +kernel
theorem wv_215 : Cond.fieldLink "CellForge$Text" 35 "CellForge$Text" "words" "I" ∈ cfB := cf_in 215 (by decide +kernel) rfl
def yTx_toNextLine : MethodName := ⟨"CellForge$Text", "toNextLine", "()Z"⟩
abbrev cTx_toNextLine : ByteArray := prog_12_method_5_code
theorem dTx_toNextLine_0 : decode cTx_toNextLine 0 = .ok (.iconst 0, 1) := by decide +kernel
theorem dTx_toNextLine_1 : decode cTx_toNextLine 1 = .ok (.istore_n 1, 1) := by decide +kernel
theorem dTx_toNextLine_2 : decode cTx_toNextLine 2 = .ok (.iload_n 1, 1) := by decide +kernel
theorem dTx_toNextLine_3 : decode cTx_toNextLine 3 = .ok (.sipush 1600, 3) := by decide +kernel
theorem dTx_toNextLine_6 : decode cTx_toNextLine 6 = .ok (.if_icmp .gt 43, 3) := by decide +kernel
theorem dTx_toNextLine_9 : decode cTx_toNextLine 9 = .ok (.aload_n 0, 1) := by decide +kernel
theorem dTx_toNextLine_10 : decode cTx_toNextLine 10 = .ok (.getfield 26, 3) := by decide +kernel
theorem dTx_toNextLine_13 : decode cTx_toNextLine 13 = .ok (.aload_n 0, 1) := by decide +kernel
theorem dTx_toNextLine_14 : decode cTx_toNextLine 14 = .ok (.getfield 22, 3) := by decide +kernel
theorem dTx_toNextLine_17 : decode cTx_toNextLine 17 = .ok (.if_icmp .gt 32, 3) := by decide +kernel
theorem dTx_toNextLine_20 : decode cTx_toNextLine 20 = .ok (.aload_n 0, 1) := by decide +kernel
theorem dTx_toNextLine_21 : decode cTx_toNextLine 21 = .ok (.dup, 1) := by decide +kernel
theorem dTx_toNextLine_22 : decode cTx_toNextLine 22 = .ok (.getfield 29, 3) := by decide +kernel
theorem dTx_toNextLine_25 : decode cTx_toNextLine 25 = .ok (.iconst 1, 1) := by decide +kernel
theorem dTx_toNextLine_26 : decode cTx_toNextLine 26 = .ok (.iadd, 1) := by decide +kernel
theorem dTx_toNextLine_27 : decode cTx_toNextLine 27 = .ok (.putfield 29, 3) := by decide +kernel
theorem dTx_toNextLine_30 : decode cTx_toNextLine 30 = .ok (.aload_n 0, 1) := by decide +kernel
theorem dTx_toNextLine_31 : decode cTx_toNextLine 31 = .ok (.invokevirtual 32, 3) := by decide +kernel
theorem dTx_toNextLine_34 : decode cTx_toNextLine 34 = .ok (.aload_n 0, 1) := by decide +kernel
theorem dTx_toNextLine_35 : decode cTx_toNextLine 35 = .ok (.getfield 35, 3) := by decide +kernel
theorem dTx_toNextLine_38 : decode cTx_toNextLine 38 = .ok (.ifCond .le 5, 3) := by decide +kernel
theorem dTx_toNextLine_41 : decode cTx_toNextLine 41 = .ok (.iconst 1, 1) := by decide +kernel
theorem dTx_toNextLine_42 : decode cTx_toNextLine 42 = .ok (.ireturn, 1) := by decide +kernel
theorem dTx_toNextLine_43 : decode cTx_toNextLine 43 = .ok (.iinc 1 1, 3) := by decide +kernel
theorem dTx_toNextLine_46 : decode cTx_toNextLine 46 = .ok (.goto (-44), 3) := by decide +kernel
theorem dTx_toNextLine_49 : decode cTx_toNextLine 49 = .ok (.aload_n 0, 1) := by decide +kernel
theorem dTx_toNextLine_50 : decode cTx_toNextLine 50 = .ok (.dup, 1) := by decide +kernel
theorem dTx_toNextLine_51 : decode cTx_toNextLine 51 = .ok (.getfield 29, 3) := by decide +kernel
theorem dTx_toNextLine_54 : decode cTx_toNextLine 54 = .ok (.iconst 1, 1) := by decide +kernel
theorem dTx_toNextLine_55 : decode cTx_toNextLine 55 = .ok (.iadd, 1) := by decide +kernel
theorem dTx_toNextLine_56 : decode cTx_toNextLine 56 = .ok (.putfield 29, 3) := by decide +kernel
theorem dTx_toNextLine_59 : decode cTx_toNextLine 59 = .ok (.iconst 0, 1) := by decide +kernel
theorem dTx_toNextLine_60 : decode cTx_toNextLine 60 = .ok (.ireturn, 1) := by decide +kernel
theorem wv_739 : Cond.methodLink "CellForge$Text" 32 (⟨"CellForge$Text", "splitLine", "()V"⟩ : MethodName) ∈ cfB := cf_in 739 (by decide +kernel) rfl
set_option maxRecDepth 100000 in
theorem wv_742 : Cond.code (⟨"CellForge$Text", "splitLine", "()V"⟩ : MethodName) prog_12_method_6_code 5 (Option.none : Option Jvm.ClassFile.FieldType) ∈ cfB := List.mem_filter.mpr ⟨List.mem_append_right _ (List.mem_append_right _ (List.mem_append_right _ (List.mem_append_left _ (List.mem_of_getElem? (i := 106) rfl)))), rfl⟩
theorem wv_741 : Cond.instanceMethod (⟨"CellForge$Text", "splitLine", "()V"⟩ : MethodName) ∈ cfB := cf_in 741 (by decide +kernel) rfl
theorem wv_0 : Cond.selects "CellForge$Text" (⟨"CellForge$Text", "splitLine", "()V"⟩ : MethodName) (⟨"CellForge$Text", "splitLine", "()V"⟩ : MethodName) ∈ cfB := cf_in 0 (by decide +kernel) rfl
def yTx_length : MethodName := ⟨"CellForge$Text", "length", "(I)I"⟩
abbrev cTx_length : ByteArray := prog_12_method_7_code
theorem dTx_length_0 : decode cTx_length 0 = .ok (.aload_n 0, 1) := by decide +kernel
theorem dTx_length_1 : decode cTx_length 1 = .ok (.getfield 19, 3) := by decide +kernel
theorem dTx_length_4 : decode cTx_length 4 = .ok (.iload_n 1, 1) := by decide +kernel
theorem dTx_length_5 : decode cTx_length 5 = .ok (.iaload, 1) := by decide +kernel
theorem dTx_length_6 : decode cTx_length 6 = .ok (.aload_n 0, 1) := by decide +kernel
theorem dTx_length_7 : decode cTx_length 7 = .ok (.getfield 15, 3) := by decide +kernel
theorem dTx_length_10 : decode cTx_length 10 = .ok (.iload_n 1, 1) := by decide +kernel
theorem dTx_length_11 : decode cTx_length 11 = .ok (.iaload, 1) := by decide +kernel
theorem dTx_length_12 : decode cTx_length 12 = .ok (.isub, 1) := by decide +kernel
theorem dTx_length_13 : decode cTx_length 13 = .ok (.ireturn, 1) := by decide +kernel
def yTx_signOf : MethodName := ⟨"CellForge$Text", "signOf", "(II)I"⟩
abbrev cTx_signOf : ByteArray := prog_12_method_8_code
theorem dTx_signOf_0 : decode cTx_signOf 0 = .ok (.aload_n 0, 1) := by decide +kernel
theorem dTx_signOf_1 : decode cTx_signOf 1 = .ok (.getfield 11, 3) := by decide +kernel
theorem dTx_signOf_4 : decode cTx_signOf 4 = .ok (.aload_n 0, 1) := by decide +kernel
theorem dTx_signOf_5 : decode cTx_signOf 5 = .ok (.getfield 15, 3) := by decide +kernel
theorem dTx_signOf_8 : decode cTx_signOf 8 = .ok (.iload_n 1, 1) := by decide +kernel
theorem dTx_signOf_9 : decode cTx_signOf 9 = .ok (.iaload, 1) := by decide +kernel
theorem dTx_signOf_10 : decode cTx_signOf 10 = .ok (.iload_n 2, 1) := by decide +kernel
theorem dTx_signOf_11 : decode cTx_signOf 11 = .ok (.iadd, 1) := by decide +kernel
theorem dTx_signOf_12 : decode cTx_signOf 12 = .ok (.baload, 1) := by decide +kernel
theorem dTx_signOf_13 : decode cTx_signOf 13 = .ok (.ireturn, 1) := by decide +kernel
def yJString_isLatin1_ : MethodName := ⟨"java/lang/String", "isLatin1", "()Z"⟩
abbrev cJString_isLatin1_ : ByteArray := prog_26_method_154_code
theorem dJString_isLatin1__0 : decode cJString_isLatin1_ 0 = .ok (.getstatic 38, 3) := by decide +kernel
theorem dJString_isLatin1__3 : decode cJString_isLatin1_ 3 = .ok (.ifCond .eq 14, 3) := by decide +kernel
theorem dJString_isLatin1__6 : decode cJString_isLatin1_ 6 = .ok (.aload_n 0, 1) := by decide +kernel
theorem dJString_isLatin1__7 : decode cJString_isLatin1_ 7 = .ok (.getfield 15, 3) := by decide +kernel
theorem dJString_isLatin1__10 : decode cJString_isLatin1_ 10 = .ok (.ifCond .ne 7, 3) := by decide +kernel
theorem dJString_isLatin1__13 : decode cJString_isLatin1_ 13 = .ok (.iconst 1, 1) := by decide +kernel
theorem dJString_isLatin1__14 : decode cJString_isLatin1_ 14 = .ok (.goto 4, 3) := by decide +kernel
theorem dJString_isLatin1__17 : decode cJString_isLatin1_ 17 = .ok (.iconst 0, 1) := by decide +kernel
theorem dJString_isLatin1__18 : decode cJString_isLatin1_ 18 = .ok (.ireturn, 1) := by decide +kernel
def yJPreconditions_checkIndex_IILjavautilfunctionBiFunction : MethodName := ⟨"jdk/internal/util/Preconditions", "checkIndex", "(IILjava/util/function/BiFunction;)I"⟩
abbrev cJPreconditions_checkIndex_IILjavautilfunctionBiFunction : ByteArray := prog_36_method_11_code
theorem dJPreconditions_checkIndex_IILjavautilfunctionBiFunction_0 : decode cJPreconditions_checkIndex_IILjavautilfunctionBiFunction 0 = .ok (.iload_n 0, 1) := by decide +kernel
theorem dJPreconditions_checkIndex_IILjavautilfunctionBiFunction_1 : decode cJPreconditions_checkIndex_IILjavautilfunctionBiFunction 1 = .ok (.ifCond .lt 8, 3) := by decide +kernel
theorem dJPreconditions_checkIndex_IILjavautilfunctionBiFunction_4 : decode cJPreconditions_checkIndex_IILjavautilfunctionBiFunction 4 = .ok (.iload_n 0, 1) := by decide +kernel
theorem dJPreconditions_checkIndex_IILjavautilfunctionBiFunction_5 : decode cJPreconditions_checkIndex_IILjavautilfunctionBiFunction 5 = .ok (.iload_n 1, 1) := by decide +kernel
theorem dJPreconditions_checkIndex_IILjavautilfunctionBiFunction_6 : decode cJPreconditions_checkIndex_IILjavautilfunctionBiFunction 6 = .ok (.if_icmp .lt 10, 3) := by decide +kernel
theorem dJPreconditions_checkIndex_IILjavautilfunctionBiFunction_9 : decode cJPreconditions_checkIndex_IILjavautilfunctionBiFunction 9 = .ok (.aload_n 2, 1) := by decide +kernel
theorem dJPreconditions_checkIndex_IILjavautilfunctionBiFunction_10 : decode cJPreconditions_checkIndex_IILjavautilfunctionBiFunction 10 = .ok (.iload_n 0, 1) := by decide +kernel
theorem dJPreconditions_checkIndex_IILjavautilfunctionBiFunction_11 : decode cJPreconditions_checkIndex_IILjavautilfunctionBiFunction 11 = .ok (.iload_n 1, 1) := by decide +kernel
theorem dJPreconditions_checkIndex_IILjavautilfunctionBiFunction_12 : decode cJPreconditions_checkIndex_IILjavautilfunctionBiFunction 12 = .ok (.invokestatic 95, 3) := by decide +kernel
theorem dJPreconditions_checkIndex_IILjavautilfunctionBiFunction_15 : decode cJPreconditions_checkIndex_IILjavautilfunctionBiFunction 15 = .ok (.athrow, 1) := by decide +kernel
theorem dJPreconditions_checkIndex_IILjavautilfunctionBiFunction_16 : decode cJPreconditions_checkIndex_IILjavautilfunctionBiFunction 16 = .ok (.iload_n 0, 1) := by decide +kernel
theorem dJPreconditions_checkIndex_IILjavautilfunctionBiFunction_17 : decode cJPreconditions_checkIndex_IILjavautilfunctionBiFunction 17 = .ok (.ireturn, 1) := by decide +kernel
def yJString_checkIndex_II : MethodName := ⟨"java/lang/String", "checkIndex", "(II)V"⟩
abbrev cJString_checkIndex_II : ByteArray := prog_26_method_155_code
theorem dJString_checkIndex_II_0 : decode cJString_checkIndex_II 0 = .ok (.iload_n 0, 1) := by decide +kernel
theorem dJString_checkIndex_II_1 : decode cJString_checkIndex_II 1 = .ok (.iload_n 1, 1) := by decide +kernel
theorem dJString_checkIndex_II_2 : decode cJString_checkIndex_II 2 = .ok (.getstatic 1053, 3) := by decide +kernel
theorem dJString_checkIndex_II_5 : decode cJString_checkIndex_II 5 = .ok (.invokestatic 1059, 3) := by decide +kernel
theorem dJString_checkIndex_II_8 : decode cJString_checkIndex_II 8 = .ok (.pop, 1) := by decide +kernel
theorem dJString_checkIndex_II_9 : decode cJString_checkIndex_II 9 = .ok (.return_, 1) := by decide +kernel
theorem wv_783 : Cond.fieldLink "java/lang/String" 1053 "jdk/internal/util/Preconditions" "SIOOBE_FORMATTER" "Ljava/util/function/BiFunction;" ∈ cfB := cf_in 783 (by decide +kernel) rfl
theorem wv_180 : Cond.initialized "jdk/internal/util/Preconditions" ∈ cfB := cf_in 180 (by decide +kernel) rfl
theorem wv_785 : Cond.methodLink "java/lang/String" 1059 (⟨"jdk/internal/util/Preconditions", "checkIndex", "(IILjava/util/function/BiFunction;)I"⟩ : MethodName) ∈ cfB := cf_in 785 (by decide +kernel) rfl
theorem wv_787 : Cond.code (⟨"jdk/internal/util/Preconditions", "checkIndex", "(IILjava/util/function/BiFunction;)I"⟩ : MethodName) prog_36_method_11_code 3 (Option.some Jvm.ClassFile.FieldType.int) ∈ cfB := cf_in 787 (by decide +kernel) rfl
theorem wv_786 : Cond.static (⟨"jdk/internal/util/Preconditions", "checkIndex", "(IILjava/util/function/BiFunction;)I"⟩ : MethodName) ∈ cfB := cf_in 786 (by decide +kernel) rfl
def yJStringLatin1_charAt_ABI : MethodName := ⟨"java/lang/StringLatin1", "charAt", "([BI)C"⟩
abbrev cJStringLatin1_charAt_ABI : ByteArray := prog_29_method_2_code
theorem dJStringLatin1_charAt_ABI_0 : decode cJStringLatin1_charAt_ABI 0 = .ok (.iload_n 1, 1) := by decide +kernel
theorem dJStringLatin1_charAt_ABI_1 : decode cJStringLatin1_charAt_ABI 1 = .ok (.aload_n 0, 1) := by decide +kernel
theorem dJStringLatin1_charAt_ABI_2 : decode cJStringLatin1_charAt_ABI 2 = .ok (.arraylength, 1) := by decide +kernel
theorem dJStringLatin1_charAt_ABI_3 : decode cJStringLatin1_charAt_ABI 3 = .ok (.invokestatic 9, 3) := by decide +kernel
theorem dJStringLatin1_charAt_ABI_6 : decode cJStringLatin1_charAt_ABI 6 = .ok (.aload_n 0, 1) := by decide +kernel
theorem dJStringLatin1_charAt_ABI_7 : decode cJStringLatin1_charAt_ABI 7 = .ok (.iload_n 1, 1) := by decide +kernel
theorem dJStringLatin1_charAt_ABI_8 : decode cJStringLatin1_charAt_ABI 8 = .ok (.baload, 1) := by decide +kernel
theorem dJStringLatin1_charAt_ABI_9 : decode cJStringLatin1_charAt_ABI 9 = .ok (.sipush 255, 3) := by decide +kernel
theorem dJStringLatin1_charAt_ABI_12 : decode cJStringLatin1_charAt_ABI 12 = .ok (.iand, 1) := by decide +kernel
theorem dJStringLatin1_charAt_ABI_13 : decode cJStringLatin1_charAt_ABI 13 = .ok (.i2c, 1) := by decide +kernel
theorem dJStringLatin1_charAt_ABI_14 : decode cJStringLatin1_charAt_ABI 14 = .ok (.ireturn, 1) := by decide +kernel
theorem wv_780 : Cond.methodLink "java/lang/StringLatin1" 9 (⟨"java/lang/String", "checkIndex", "(II)V"⟩ : MethodName) ∈ cfB := cf_in 780 (by decide +kernel) rfl
theorem wv_782 : Cond.code (⟨"java/lang/String", "checkIndex", "(II)V"⟩ : MethodName) prog_26_method_155_code 2 (Option.none : Option Jvm.ClassFile.FieldType) ∈ cfB := cf_in 782 (by decide +kernel) rfl
theorem wv_781 : Cond.static (⟨"java/lang/String", "checkIndex", "(II)V"⟩ : MethodName) ∈ cfB := cf_in 781 (by decide +kernel) rfl
def yJString_charAt_I : MethodName := ⟨"java/lang/String", "charAt", "(I)C"⟩
abbrev cJString_charAt_I : ByteArray := prog_26_method_56_code
theorem dJString_charAt_I_0 : decode cJString_charAt_I 0 = .ok (.aload_n 0, 1) := by decide +kernel
theorem dJString_charAt_I_1 : decode cJString_charAt_I 1 = .ok (.invokevirtual 492, 3) := by decide +kernel
theorem dJString_charAt_I_4 : decode cJString_charAt_I 4 = .ok (.ifCond .eq 12, 3) := by decide +kernel
theorem dJString_charAt_I_7 : decode cJString_charAt_I 7 = .ok (.aload_n 0, 1) := by decide +kernel
theorem dJString_charAt_I_8 : decode cJString_charAt_I 8 = .ok (.getfield 9, 3) := by decide +kernel
theorem dJString_charAt_I_11 : decode cJString_charAt_I 11 = .ok (.iload_n 1, 1) := by decide +kernel
theorem dJString_charAt_I_12 : decode cJString_charAt_I 12 = .ok (.invokestatic 495, 3) := by decide +kernel
theorem dJString_charAt_I_15 : decode cJString_charAt_I 15 = .ok (.ireturn, 1) := by decide +kernel
theorem dJString_charAt_I_16 : decode cJString_charAt_I 16 = .ok (.aload_n 0, 1) := by decide +kernel
theorem dJString_charAt_I_17 : decode cJString_charAt_I 17 = .ok (.getfield 9, 3) := by decide +kernel
theorem dJString_charAt_I_20 : decode cJString_charAt_I 20 = .ok (.iload_n 1, 1) := by decide +kernel
theorem dJString_charAt_I_21 : decode cJString_charAt_I 21 = .ok (.invokestatic 498, 3) := by decide +kernel
theorem dJString_charAt_I_24 : decode cJString_charAt_I 24 = .ok (.ireturn, 1) := by decide +kernel
theorem wv_773 : Cond.methodLink "java/lang/String" 492 (⟨"java/lang/String", "isLatin1", "()Z"⟩ : MethodName) ∈ cfB := cf_in 773 (by decide +kernel) rfl
theorem wv_776 : Cond.code (⟨"java/lang/String", "isLatin1", "()Z"⟩ : MethodName) prog_26_method_154_code 1 (Option.some Jvm.ClassFile.FieldType.boolean) ∈ cfB := cf_in 776 (by decide +kernel) rfl
theorem wv_774 : Cond.instanceMethod (⟨"java/lang/String", "isLatin1", "()Z"⟩ : MethodName) ∈ cfB := cf_in 774 (by decide +kernel) rfl
theorem wv_775 : Cond.selects "java/lang/String" (⟨"java/lang/String", "isLatin1", "()Z"⟩ : MethodName) (⟨"java/lang/String", "isLatin1", "()Z"⟩ : MethodName) ∈ cfB := cf_in 775 (by decide +kernel) rfl
theorem wv_777 : Cond.methodLink "java/lang/String" 495 (⟨"java/lang/StringLatin1", "charAt", "([BI)C"⟩ : MethodName) ∈ cfB := cf_in 777 (by decide +kernel) rfl
theorem wv_779 : Cond.code (⟨"java/lang/StringLatin1", "charAt", "([BI)C"⟩ : MethodName) prog_29_method_2_code 2 (Option.some Jvm.ClassFile.FieldType.char) ∈ cfB := cf_in 779 (by decide +kernel) rfl
theorem wv_778 : Cond.static (⟨"java/lang/StringLatin1", "charAt", "([BI)C"⟩ : MethodName) ∈ cfB := cf_in 778 (by decide +kernel) rfl
def yTx_isWord : MethodName := ⟨"CellForge$Text", "isWord", "(ILjava/lang/String;)Z"⟩
abbrev cTx_isWord : ByteArray := prog_12_method_9_code
theorem dTx_isWord_0 : decode cTx_isWord 0 = .ok (.aload_n 0, 1) := by decide +kernel
theorem dTx_isWord_1 : decode cTx_isWord 1 = .ok (.iload_n 1, 1) := by decide +kernel
theorem dTx_isWord_2 : decode cTx_isWord 2 = .ok (.invokevirtual 38, 3) := by decide +kernel
theorem dTx_isWord_5 : decode cTx_isWord 5 = .ok (.aload_n 2, 1) := by decide +kernel
theorem dTx_isWord_6 : decode cTx_isWord 6 = .ok (.invokevirtual 42, 3) := by decide +kernel
theorem dTx_isWord_9 : decode cTx_isWord 9 = .ok (.if_icmp .eq 5, 3) := by decide +kernel
theorem dTx_isWord_12 : decode cTx_isWord 12 = .ok (.iconst 0, 1) := by decide +kernel
theorem dTx_isWord_13 : decode cTx_isWord 13 = .ok (.ireturn, 1) := by decide +kernel
theorem dTx_isWord_14 : decode cTx_isWord 14 = .ok (.iconst 0, 1) := by decide +kernel
theorem dTx_isWord_15 : decode cTx_isWord 15 = .ok (.istore_n 3, 1) := by decide +kernel
theorem dTx_isWord_16 : decode cTx_isWord 16 = .ok (.iload_n 3, 1) := by decide +kernel
theorem dTx_isWord_17 : decode cTx_isWord 17 = .ok (.aload_n 2, 1) := by decide +kernel
theorem dTx_isWord_18 : decode cTx_isWord 18 = .ok (.invokevirtual 42, 3) := by decide +kernel
theorem dTx_isWord_21 : decode cTx_isWord 21 = .ok (.if_icmp .ge 25, 3) := by decide +kernel
theorem dTx_isWord_24 : decode cTx_isWord 24 = .ok (.aload_n 0, 1) := by decide +kernel
theorem dTx_isWord_25 : decode cTx_isWord 25 = .ok (.iload_n 1, 1) := by decide +kernel
theorem dTx_isWord_26 : decode cTx_isWord 26 = .ok (.iload_n 3, 1) := by decide +kernel
theorem dTx_isWord_27 : decode cTx_isWord 27 = .ok (.invokevirtual 47, 3) := by decide +kernel
theorem dTx_isWord_30 : decode cTx_isWord 30 = .ok (.aload_n 2, 1) := by decide +kernel
theorem dTx_isWord_31 : decode cTx_isWord 31 = .ok (.iload_n 3, 1) := by decide +kernel
theorem dTx_isWord_32 : decode cTx_isWord 32 = .ok (.invokevirtual 51, 3) := by decide +kernel
theorem dTx_isWord_35 : decode cTx_isWord 35 = .ok (.if_icmp .eq 5, 3) := by decide +kernel
theorem dTx_isWord_38 : decode cTx_isWord 38 = .ok (.iconst 0, 1) := by decide +kernel
theorem dTx_isWord_39 : decode cTx_isWord 39 = .ok (.ireturn, 1) := by decide +kernel
theorem dTx_isWord_40 : decode cTx_isWord 40 = .ok (.iinc 3 1, 3) := by decide +kernel
theorem dTx_isWord_43 : decode cTx_isWord 43 = .ok (.goto (-27), 3) := by decide +kernel
theorem dTx_isWord_46 : decode cTx_isWord 46 = .ok (.iconst 1, 1) := by decide +kernel
theorem dTx_isWord_47 : decode cTx_isWord 47 = .ok (.ireturn, 1) := by decide +kernel
theorem wv_756 : Cond.methodLink "CellForge$Text" 42 (⟨"java/lang/String", "length", "()I"⟩ : MethodName) ∈ cfB := cf_in 756 (by decide +kernel) rfl
theorem wv_765 : Cond.methodLink "CellForge$Text" 47 (⟨"CellForge$Text", "signOf", "(II)I"⟩ : MethodName) ∈ cfB := cf_in 765 (by decide +kernel) rfl
theorem wv_768 : Cond.code (⟨"CellForge$Text", "signOf", "(II)I"⟩ : MethodName) prog_12_method_8_code 3 (Option.some Jvm.ClassFile.FieldType.int) ∈ cfB := cf_in 768 (by decide +kernel) rfl
theorem wv_766 : Cond.instanceMethod (⟨"CellForge$Text", "signOf", "(II)I"⟩ : MethodName) ∈ cfB := cf_in 766 (by decide +kernel) rfl
theorem wv_767 : Cond.selects "CellForge$Text" (⟨"CellForge$Text", "signOf", "(II)I"⟩ : MethodName) (⟨"CellForge$Text", "signOf", "(II)I"⟩ : MethodName) ∈ cfB := cf_in 767 (by decide +kernel) rfl
theorem wv_769 : Cond.methodLink "CellForge$Text" 51 (⟨"java/lang/String", "charAt", "(I)C"⟩ : MethodName) ∈ cfB := cf_in 769 (by decide +kernel) rfl
theorem wv_772 : Cond.code (⟨"java/lang/String", "charAt", "(I)C"⟩ : MethodName) prog_26_method_56_code 2 (Option.some Jvm.ClassFile.FieldType.char) ∈ cfB := cf_in 772 (by decide +kernel) rfl
theorem wv_770 : Cond.instanceMethod (⟨"java/lang/String", "charAt", "(I)C"⟩ : MethodName) ∈ cfB := cf_in 770 (by decide +kernel) rfl
theorem wv_771 : Cond.selects "java/lang/String" (⟨"java/lang/String", "charAt", "(I)C"⟩ : MethodName) (⟨"java/lang/String", "charAt", "(I)C"⟩ : MethodName) ∈ cfB := cf_in 771 (by decide +kernel) rfl
theorem wv_752 : Cond.methodLink "CellForge$Text" 38 (⟨"CellForge$Text", "length", "(I)I"⟩ : MethodName) ∈ cfB := cf_in 752 (by decide +kernel) rfl
theorem wv_755 : Cond.code (⟨"CellForge$Text", "length", "(I)I"⟩ : MethodName) prog_12_method_7_code 2 (Option.some Jvm.ClassFile.FieldType.int) ∈ cfB := cf_in 755 (by decide +kernel) rfl
theorem wv_753 : Cond.instanceMethod (⟨"CellForge$Text", "length", "(I)I"⟩ : MethodName) ∈ cfB := cf_in 753 (by decide +kernel) rfl
theorem wv_754 : Cond.selects "CellForge$Text" (⟨"CellForge$Text", "length", "(I)I"⟩ : MethodName) (⟨"CellForge$Text", "length", "(I)I"⟩ : MethodName) ∈ cfB := cf_in 754 (by decide +kernel) rfl
def yTx_isNameSign : MethodName := ⟨"CellForge$Text", "isNameSign", "(I)Z"⟩
abbrev cTx_isNameSign : ByteArray := prog_12_method_11_code
theorem dTx_isNameSign_0 : decode cTx_isNameSign 0 = .ok (.iload_n 0, 1) := by decide +kernel
theorem dTx_isNameSign_1 : decode cTx_isNameSign 1 = .ok (.bipush 97, 2) := by decide +kernel
theorem dTx_isNameSign_3 : decode cTx_isNameSign 3 = .ok (.if_icmp .lt 9, 3) := by decide +kernel
theorem dTx_isNameSign_6 : decode cTx_isNameSign 6 = .ok (.iload_n 0, 1) := by decide +kernel
theorem dTx_isNameSign_7 : decode cTx_isNameSign 7 = .ok (.bipush 122, 2) := by decide +kernel
theorem dTx_isNameSign_9 : decode cTx_isNameSign 9 = .ok (.if_icmp .le 33, 3) := by decide +kernel
theorem dTx_isNameSign_12 : decode cTx_isNameSign 12 = .ok (.iload_n 0, 1) := by decide +kernel
theorem dTx_isNameSign_13 : decode cTx_isNameSign 13 = .ok (.bipush 65, 2) := by decide +kernel
theorem dTx_isNameSign_15 : decode cTx_isNameSign 15 = .ok (.if_icmp .lt 9, 3) := by decide +kernel
theorem dTx_isNameSign_18 : decode cTx_isNameSign 18 = .ok (.iload_n 0, 1) := by decide +kernel
theorem dTx_isNameSign_19 : decode cTx_isNameSign 19 = .ok (.bipush 90, 2) := by decide +kernel
theorem dTx_isNameSign_21 : decode cTx_isNameSign 21 = .ok (.if_icmp .le 21, 3) := by decide +kernel
theorem dTx_isNameSign_24 : decode cTx_isNameSign 24 = .ok (.iload_n 0, 1) := by decide +kernel
theorem dTx_isNameSign_25 : decode cTx_isNameSign 25 = .ok (.bipush 48, 2) := by decide +kernel
theorem dTx_isNameSign_27 : decode cTx_isNameSign 27 = .ok (.if_icmp .lt 9, 3) := by decide +kernel
theorem dTx_isNameSign_30 : decode cTx_isNameSign 30 = .ok (.iload_n 0, 1) := by decide +kernel
theorem dTx_isNameSign_31 : decode cTx_isNameSign 31 = .ok (.bipush 57, 2) := by decide +kernel
theorem dTx_isNameSign_33 : decode cTx_isNameSign 33 = .ok (.if_icmp .le 9, 3) := by decide +kernel
theorem dTx_isNameSign_36 : decode cTx_isNameSign 36 = .ok (.iload_n 0, 1) := by decide +kernel
theorem dTx_isNameSign_37 : decode cTx_isNameSign 37 = .ok (.bipush 95, 2) := by decide +kernel
theorem dTx_isNameSign_39 : decode cTx_isNameSign 39 = .ok (.if_icmp .ne 7, 3) := by decide +kernel
theorem dTx_isNameSign_42 : decode cTx_isNameSign 42 = .ok (.iconst 1, 1) := by decide +kernel
theorem dTx_isNameSign_43 : decode cTx_isNameSign 43 = .ok (.goto 4, 3) := by decide +kernel
theorem dTx_isNameSign_46 : decode cTx_isNameSign 46 = .ok (.iconst 0, 1) := by decide +kernel
theorem dTx_isNameSign_47 : decode cTx_isNameSign 47 = .ok (.ireturn, 1) := by decide +kernel
def yTx_name : MethodName := ⟨"CellForge$Text", "name", "(I)J"⟩
abbrev cTx_name : ByteArray := prog_12_method_10_code
theorem dTx_name_0 : decode cTx_name 0 = .ok (.aload_n 0, 1) := by decide +kernel
theorem dTx_name_1 : decode cTx_name 1 = .ok (.iload_n 1, 1) := by decide +kernel
theorem dTx_name_2 : decode cTx_name 2 = .ok (.invokevirtual 38, 3) := by decide +kernel
theorem dTx_name_5 : decode cTx_name 5 = .ok (.bipush 8, 2) := by decide +kernel
theorem dTx_name_7 : decode cTx_name 7 = .ok (.if_icmp .le 5, 3) := by decide +kernel
theorem dTx_name_10 : decode cTx_name 10 = .ok (.lconst 0, 1) := by decide +kernel
theorem dTx_name_11 : decode cTx_name 11 = .ok (.lreturn, 1) := by decide +kernel
theorem dTx_name_12 : decode cTx_name 12 = .ok (.lconst 0, 1) := by decide +kernel
theorem dTx_name_13 : decode cTx_name 13 = .ok (.lstore_n 2, 1) := by decide +kernel
theorem dTx_name_14 : decode cTx_name 14 = .ok (.iconst 0, 1) := by decide +kernel
theorem dTx_name_15 : decode cTx_name 15 = .ok (.istore 4, 2) := by decide +kernel
theorem dTx_name_17 : decode cTx_name 17 = .ok (.iload 4, 2) := by decide +kernel
theorem dTx_name_19 : decode cTx_name 19 = .ok (.aload_n 0, 1) := by decide +kernel
theorem dTx_name_20 : decode cTx_name 20 = .ok (.iload_n 1, 1) := by decide +kernel
theorem dTx_name_21 : decode cTx_name 21 = .ok (.invokevirtual 38, 3) := by decide +kernel
theorem dTx_name_24 : decode cTx_name 24 = .ok (.if_icmp .ge 37, 3) := by decide +kernel
theorem dTx_name_27 : decode cTx_name 27 = .ok (.aload_n 0, 1) := by decide +kernel
theorem dTx_name_28 : decode cTx_name 28 = .ok (.iload_n 1, 1) := by decide +kernel
theorem dTx_name_29 : decode cTx_name 29 = .ok (.iload 4, 2) := by decide +kernel
theorem dTx_name_31 : decode cTx_name 31 = .ok (.invokevirtual 47, 3) := by decide +kernel
theorem dTx_name_34 : decode cTx_name 34 = .ok (.istore 5, 2) := by decide +kernel
theorem dTx_name_36 : decode cTx_name 36 = .ok (.iload 5, 2) := by decide +kernel
theorem dTx_name_38 : decode cTx_name 38 = .ok (.invokestatic 55, 3) := by decide +kernel
theorem dTx_name_41 : decode cTx_name 41 = .ok (.ifCond .ne 5, 3) := by decide +kernel
theorem dTx_name_44 : decode cTx_name 44 = .ok (.lconst 0, 1) := by decide +kernel
theorem dTx_name_45 : decode cTx_name 45 = .ok (.lreturn, 1) := by decide +kernel
theorem dTx_name_46 : decode cTx_name 46 = .ok (.lload_n 2, 1) := by decide +kernel
theorem dTx_name_47 : decode cTx_name 47 = .ok (.bipush 8, 2) := by decide +kernel
theorem dTx_name_49 : decode cTx_name 49 = .ok (.lshl, 1) := by decide +kernel
theorem dTx_name_50 : decode cTx_name 50 = .ok (.iload 5, 2) := by decide +kernel
theorem dTx_name_52 : decode cTx_name 52 = .ok (.i2l, 1) := by decide +kernel
theorem dTx_name_53 : decode cTx_name 53 = .ok (.lor, 1) := by decide +kernel
theorem dTx_name_54 : decode cTx_name 54 = .ok (.lstore_n 2, 1) := by decide +kernel
theorem dTx_name_55 : decode cTx_name 55 = .ok (.iinc 4 1, 3) := by decide +kernel
theorem dTx_name_58 : decode cTx_name 58 = .ok (.goto (-41), 3) := by decide +kernel
theorem dTx_name_61 : decode cTx_name 61 = .ok (.lload_n 2, 1) := by decide +kernel
theorem dTx_name_62 : decode cTx_name 62 = .ok (.lreturn, 1) := by decide +kernel
theorem wv_816 : Cond.methodLink "CellForge$Text" 55 (⟨"CellForge$Text", "isNameSign", "(I)Z"⟩ : MethodName) ∈ cfB := cf_in 816 (by decide +kernel) rfl
theorem wv_818 : Cond.code (⟨"CellForge$Text", "isNameSign", "(I)Z"⟩ : MethodName) prog_12_method_11_code 1 (Option.some Jvm.ClassFile.FieldType.boolean) ∈ cfB := cf_in 818 (by decide +kernel) rfl
theorem wv_817 : Cond.static (⟨"CellForge$Text", "isNameSign", "(I)Z"⟩ : MethodName) ∈ cfB := cf_in 817 (by decide +kernel) rfl
def yTx_digits : MethodName := ⟨"CellForge$Text", "digits", "(II)I"⟩
abbrev cTx_digits : ByteArray := prog_12_method_12_code
theorem dTx_digits_0 : decode cTx_digits 0 = .ok (.aload_n 0, 1) := by decide +kernel
theorem dTx_digits_1 : decode cTx_digits 1 = .ok (.iload_n 1, 1) := by decide +kernel
theorem dTx_digits_2 : decode cTx_digits 2 = .ok (.invokevirtual 38, 3) := by decide +kernel
theorem dTx_digits_5 : decode cTx_digits 5 = .ok (.iload_n 2, 1) := by decide +kernel
theorem dTx_digits_6 : decode cTx_digits 6 = .ok (.if_icmp .le 5, 3) := by decide +kernel
theorem dTx_digits_9 : decode cTx_digits 9 = .ok (.iconst (-1), 1) := by decide +kernel
theorem dTx_digits_10 : decode cTx_digits 10 = .ok (.ireturn, 1) := by decide +kernel
theorem dTx_digits_11 : decode cTx_digits 11 = .ok (.iconst 0, 1) := by decide +kernel
theorem dTx_digits_12 : decode cTx_digits 12 = .ok (.istore_n 3, 1) := by decide +kernel
theorem dTx_digits_13 : decode cTx_digits 13 = .ok (.iconst 0, 1) := by decide +kernel
theorem dTx_digits_14 : decode cTx_digits 14 = .ok (.istore 4, 2) := by decide +kernel
theorem dTx_digits_16 : decode cTx_digits 16 = .ok (.iload 4, 2) := by decide +kernel
theorem dTx_digits_18 : decode cTx_digits 18 = .ok (.aload_n 0, 1) := by decide +kernel
theorem dTx_digits_19 : decode cTx_digits 19 = .ok (.iload_n 1, 1) := by decide +kernel
theorem dTx_digits_20 : decode cTx_digits 20 = .ok (.invokevirtual 38, 3) := by decide +kernel
theorem dTx_digits_23 : decode cTx_digits 23 = .ok (.if_icmp .ge 45, 3) := by decide +kernel
theorem dTx_digits_26 : decode cTx_digits 26 = .ok (.aload_n 0, 1) := by decide +kernel
theorem dTx_digits_27 : decode cTx_digits 27 = .ok (.iload_n 1, 1) := by decide +kernel
theorem dTx_digits_28 : decode cTx_digits 28 = .ok (.iload 4, 2) := by decide +kernel
theorem dTx_digits_30 : decode cTx_digits 30 = .ok (.invokevirtual 47, 3) := by decide +kernel
theorem dTx_digits_33 : decode cTx_digits 33 = .ok (.istore 5, 2) := by decide +kernel
theorem dTx_digits_35 : decode cTx_digits 35 = .ok (.iload 5, 2) := by decide +kernel
theorem dTx_digits_37 : decode cTx_digits 37 = .ok (.bipush 48, 2) := by decide +kernel
theorem dTx_digits_39 : decode cTx_digits 39 = .ok (.if_icmp .lt 10, 3) := by decide +kernel
theorem dTx_digits_42 : decode cTx_digits 42 = .ok (.iload 5, 2) := by decide +kernel
theorem dTx_digits_44 : decode cTx_digits 44 = .ok (.bipush 57, 2) := by decide +kernel
theorem dTx_digits_46 : decode cTx_digits 46 = .ok (.if_icmp .le 5, 3) := by decide +kernel
theorem dTx_digits_49 : decode cTx_digits 49 = .ok (.iconst (-1), 1) := by decide +kernel
theorem dTx_digits_50 : decode cTx_digits 50 = .ok (.ireturn, 1) := by decide +kernel
theorem dTx_digits_51 : decode cTx_digits 51 = .ok (.bipush 10, 2) := by decide +kernel
theorem dTx_digits_53 : decode cTx_digits 53 = .ok (.iload_n 3, 1) := by decide +kernel
theorem dTx_digits_54 : decode cTx_digits 54 = .ok (.imul, 1) := by decide +kernel
theorem dTx_digits_55 : decode cTx_digits 55 = .ok (.iload 5, 2) := by decide +kernel
theorem dTx_digits_57 : decode cTx_digits 57 = .ok (.iadd, 1) := by decide +kernel
theorem dTx_digits_58 : decode cTx_digits 58 = .ok (.bipush 48, 2) := by decide +kernel
theorem dTx_digits_60 : decode cTx_digits 60 = .ok (.isub, 1) := by decide +kernel
theorem dTx_digits_61 : decode cTx_digits 61 = .ok (.istore_n 3, 1) := by decide +kernel
theorem dTx_digits_62 : decode cTx_digits 62 = .ok (.iinc 4 1, 3) := by decide +kernel
theorem dTx_digits_65 : decode cTx_digits 65 = .ok (.goto (-49), 3) := by decide +kernel
theorem dTx_digits_68 : decode cTx_digits 68 = .ok (.iload_n 3, 1) := by decide +kernel
theorem dTx_digits_69 : decode cTx_digits 69 = .ok (.ireturn, 1) := by decide +kernel
set_option maxHeartbeats 4000000 in
set_option maxRecDepth 100000 in
theorem bFu_bit_0 {p : Program} {l : Launch} {e : Env} {s : State} {m : MethodId} {below : List Frame} {meth : Method} {c : Code} {A : Nat → Prop} {D : va_G} {K : Nat → ClassId} {h0 : Nat} {a0 : Nat → Nat} {AR : Array Value} (C : (dc_C p s m AR meth c cFu_bit 3 (Option.some Jvm.ClassFile.FieldType.int) yFu_bit ∧ cf_E D K A s s.heap ∧ ∀ q, s.heap.size ≤ q → A q)) (v1 : Int32) (v2 : Int32) (o0 : cf_O) (r : Int32) (h : fFu_bit_0 v1 v2 o0 = some r) {H : Heap} {locs : List Loc} {ls : Array Slot} (hP : va_P D vwCl (wFu K h0 a0 o0) H) (hD : va_D A (wFu K h0 a0 o0)) (hS : va_S A s.heap H locs) (hl : lv_has ls 3 [(0, .ref h0), (1, .int v1), (2, .int v2)]) : W p l e ({ frames := 1, cells := 0, slots := 0, locals := 22 }) s m AR below meth c H locs 0 0 (MQ below (va_Qi (fun (x : Int32) (_ : Unit) => x = r) (fun (_ : Unit) t => cf_At D A (wFu K h0 a0 o0) t) A) AR s 0 0 A) (F0 m 0 ls []) := by
  obtain ⟨⟨hx, hb, hr, hts, hown, hlocks, hin, hml⟩, hE, hA⟩ := id C
  have hK := hE.k
  refine lv_aload_n hx hb dFu_bit_0 rfl (lv_at hl 0 rfl) ?_
  refine lv_iload_n hx hb dFu_bit_1 rfl (lv_at hl 1 rfl) ?_
  refine lv_iload_n hx hb dFu_bit_2 rfl (lv_at hl 2 rfl) ?_
  refine lv_bipush (v := 6) hx hb dFu_bit_3 (by decide) ?_
  refine lv_ishr hx hb dFu_bit_5 ?_
  refine lv_topi (fun x_1 ex_1 => ?_)
  have h := op_ks ex_1 h
  obtain ⟨q_2, hq_2, h⟩ := op_b h
  refine dc_calll (va_runV (As := [.int v1, .int x_1]) (rest := []) ⟨hx, hb, hml, hown, hts⟩ (mFu_word l D K _ v1 x_1 h0 a0 o0 _ hq_2) (cwV 2 hts (cf_GV wv_1173 wv_1175 wv_25 wv_159 wv_1176) rfl rfl rfl (by decide +kernel) ⟨Nat.le_of_ble_eq_true rfl, Nat.le_of_ble_eq_true rfl⟩) (dc_preV hE hP hD hS hA rfl 0 rfl) rfl rfl hl.1 rfl (lv_room (Nat.le_of_ble_eq_true rfl)) dFu_bit_6 ⟨Nat.le_of_ble_eq_true rfl, Nat.le_of_ble_eq_true rfl⟩) hP hD hS hA (fun r_3 H locs hw_4 hP hD hS => ?_)
  subst r_3
  refine lv_iload_n hx hb dFu_bit_9 rfl (lv_at hl 2 rfl) ?_
  refine lv_bipush (v := 63) hx hb dFu_bit_10 (by decide) ?_
  refine lv_iand hx hb dFu_bit_12 ?_
  refine lv_topi (fun x_5 ex_5 => ?_)
  have h := op_ks ex_5 h
  refine lv_lushr hx hb dFu_bit_13 rfl ?_
  refine lv_topl (fun x_6 ex_6 => ?_)
  have h := op_ks ex_6 h
  refine lv_lconst (v := 1) hx hb dFu_bit_14 (by decide) ?_
  refine lv_land hx hb dFu_bit_15 ?_
  refine lv_topl (fun x_7 ex_7 => ?_)
  have h := op_ks ex_7 h
  refine lv_l2i hx hb dFu_bit_16 rfl ?_
  refine lv_topi (fun x_8 ex_8 => ?_)
  have h := op_ks ex_8 h
  obtain rfl := Option.some.inj h
  exact dc_iret hx hb hr hlocks rfl hP hD hS dFu_bit_17
set_option maxRecDepth 100000 in
theorem mFu_bit (l : Launch) (D : va_G) (K : Nat → ClassId) (sz : Nat) (v1 : Int32) (v2 : Int32) (h0 : Nat) (a0 : Nat → Nat) (o0 : cf_O) (r : Int32) (h : fFu_bit v1 v2 o0 = some r) : Met l yFu_bit (Cond.code yFu_bit cFu_bit 3 (Option.some Jvm.ClassFile.FieldType.int) :: cfB) ({ frames := 1, cells := 0, slots := 0, locals := 22 }) (va_Pc [.ref h0, .int v1, .int v2] (cf_Pre D K sz (wFu K h0 a0 o0))) (va_Qi (fun (x : Int32) (_ : Unit) => x = r) (fun (_ : Unit) t => cf_At D (va_A (wFu K h0 a0 o0) sz) (wFu K h0 a0 o0) t) (va_A (wFu K h0 a0 o0) sz)) 0 0 (va_A (wFu K h0 a0 o0) sz) := by
  refine cf_ofW (y := yFu_bit) (As := [.ref h0, .int v1, .int v2]) (WS := wFu K h0 a0 o0) (maxL := 3) (fun A => (va_Qi (fun (x : Int32) (_ : Unit) => x = r) (fun (_ : Unit) t => cf_At D A (wFu K h0 a0 o0) t) A)) (by decide) (Nat.le_of_ble_eq_true rfl) ?_
  intro p e s m below meth c A ls En hsz hA hP hD hE hS hl
  have C : (dc_C p s m (([.ref h0, .int v1, .int v2] : List Value).toArray) meth c cFu_bit 3 (Option.some Jvm.ClassFile.FieldType.int) yFu_bit ∧ cf_E D K A s s.heap ∧ ∀ q, s.heap.size ≤ q → A q) := ⟨En, hE, hA⟩
  exact bFu_bit_0 C v1 v2 o0 r h hP hD hS hl
set_option maxHeartbeats 4000000 in
set_option maxRecDepth 100000 in
theorem bJInteger_numberOfTrailingZeros_I_74 {p : Program} {l : Launch} {e : Env} {s : State} {m : MethodId} {below : List Frame} {meth : Method} {c : Code} {AR : Array Value} (C : dc_C p s m AR meth c cJInteger_numberOfTrailingZeros_I 2 (Option.some Jvm.ClassFile.FieldType.int) yJInteger_numberOfTrailingZeros_I) (v0 : Int32) (v1 : Int32) (r : Int32) (h : fJInteger_numberOfTrailingZeros_I_74 v0 v1 = some r) {ls : Array Slot} (hl : lv_has ls 2 [(0, .int v0), (1, .int v1)]) : W p l e ({ frames := 0, cells := 0, slots := 0, locals := 0 }) s m AR below meth c s.heap [] 0 0 (MQ below (cf_Pi (fun x => x = r)) AR s 0 0 (fun _ => False)) (F0 m 74 ls []) := by
  obtain ⟨hx, hb, hr, hts, hown, hlocks, hin, hml⟩ := id C
  refine lv_iload_n hx hb dJInteger_numberOfTrailingZeros_I_74 rfl (lv_at hl 1 rfl) ?_
  refine lv_iload_n hx hb dJInteger_numberOfTrailingZeros_I_75 rfl (lv_at hl 0 rfl) ?_
  refine lv_iconst (v := 1) hx hb dJInteger_numberOfTrailingZeros_I_76 (by decide) ?_
  refine lv_iushr hx hb dJInteger_numberOfTrailingZeros_I_77 rfl ?_
  refine lv_topi (fun x_1 ex_1 => ?_)
  have h := op_ks ex_1 h
  refine lv_iadd hx hb dJInteger_numberOfTrailingZeros_I_78 ?_
  refine lv_topi (fun x_2 ex_2 => ?_)
  have h := op_ks ex_2 h
  obtain rfl := Option.some.inj h
  exact W.iret hx hb hr (fun t ht hW => ⟨_, rfl, rfl, ht⟩) cf_pnil dJInteger_numberOfTrailingZeros_I_79 hlocks
set_option maxHeartbeats 4000000 in
set_option maxRecDepth 100000 in
theorem bJInteger_numberOfTrailingZeros_I_62 {p : Program} {l : Launch} {e : Env} {s : State} {m : MethodId} {below : List Frame} {meth : Method} {c : Code} {AR : Array Value} (C : dc_C p s m AR meth c cJInteger_numberOfTrailingZeros_I 2 (Option.some Jvm.ClassFile.FieldType.int) yJInteger_numberOfTrailingZeros_I) (v0 : Int32) (v1 : Int32) (r : Int32) (h : fJInteger_numberOfTrailingZeros_I_62 v0 v1 = some r) {ls : Array Slot} (hl : lv_has ls 2 [(0, .int v0), (1, .int v1)]) : W p l e ({ frames := 0, cells := 0, slots := 0, locals := 0 }) s m AR below meth c s.heap [] 0 0 (MQ below (cf_Pi (fun x => x = r)) AR s 0 0 (fun _ => False)) (F0 m 62 ls []) := by
  obtain ⟨hx, hb, hr, hts, hown, hlocks, hin, hml⟩ := id C
  refine lv_iload_n hx hb dJInteger_numberOfTrailingZeros_I_62 rfl (lv_at hl 0 rfl) ?_
  refine lv_iconst (v := 4) hx hb dJInteger_numberOfTrailingZeros_I_63 (by decide) ?_
  refine lv_icmp_le (tgt := 74) hx hb dJInteger_numberOfTrailingZeros_I_64 (by decide) (fun c_1 => ?_) (fun c_1 => ?_)
  · have h := op_t c_1 h
    exact bJInteger_numberOfTrailingZeros_I_74 C _ _ _ h (lv_sub hl [0, 1] rfl)
  · have h := op_f c_1 h
    obtain ⟨x_2, ex_2⟩ : ∃ y : Int32, y = v1 + 2 := ⟨_, rfl⟩
    refine lv_iinc (v := x_2) (lv' := [(1, .int x_2), (0, .int v0)]) hx hb dJInteger_numberOfTrailingZeros_I_67 hl (k := 1) rfl (by rw [ex_2]; rfl) (by decide) rfl (fun ls hl => ?_)
    have h := op_ks ex_2 h
    refine lv_iload_n hx hb dJInteger_numberOfTrailingZeros_I_70 rfl (lv_at hl 1 rfl) ?_
    refine lv_iconst (v := 2) hx hb dJInteger_numberOfTrailingZeros_I_71 (by decide) ?_
    refine lv_iushr hx hb dJInteger_numberOfTrailingZeros_I_72 rfl ?_
    refine lv_topi (fun x_3 ex_3 => ?_)
    have h := op_ks ex_3 h
    refine lv_istore_n (lv' := [(0, .int x_3), (1, .int x_2)]) hx hb dJInteger_numberOfTrailingZeros_I_73 rfl hl (by decide) rfl (fun ls hl => ?_)
    exact bJInteger_numberOfTrailingZeros_I_74 C _ _ _ h (lv_sub hl [0, 1] rfl)
set_option maxHeartbeats 4000000 in
set_option maxRecDepth 100000 in
theorem bJInteger_numberOfTrailingZeros_I_49 {p : Program} {l : Launch} {e : Env} {s : State} {m : MethodId} {below : List Frame} {meth : Method} {c : Code} {AR : Array Value} (C : dc_C p s m AR meth c cJInteger_numberOfTrailingZeros_I 2 (Option.some Jvm.ClassFile.FieldType.int) yJInteger_numberOfTrailingZeros_I) (v0 : Int32) (v1 : Int32) (r : Int32) (h : fJInteger_numberOfTrailingZeros_I_49 v0 v1 = some r) {ls : Array Slot} (hl : lv_has ls 2 [(0, .int v0), (1, .int v1)]) : W p l e ({ frames := 0, cells := 0, slots := 0, locals := 0 }) s m AR below meth c s.heap [] 0 0 (MQ below (cf_Pi (fun x => x = r)) AR s 0 0 (fun _ => False)) (F0 m 49 ls []) := by
  obtain ⟨hx, hb, hr, hts, hown, hlocks, hin, hml⟩ := id C
  refine lv_iload_n hx hb dJInteger_numberOfTrailingZeros_I_49 rfl (lv_at hl 0 rfl) ?_
  refine lv_bipush (v := 16) hx hb dJInteger_numberOfTrailingZeros_I_50 (by decide) ?_
  refine lv_icmp_le (tgt := 62) hx hb dJInteger_numberOfTrailingZeros_I_52 (by decide) (fun c_1 => ?_) (fun c_1 => ?_)
  · have h := op_t c_1 h
    exact bJInteger_numberOfTrailingZeros_I_62 C _ _ _ h (lv_sub hl [0, 1] rfl)
  · have h := op_f c_1 h
    obtain ⟨x_2, ex_2⟩ : ∃ y : Int32, y = v1 + 4 := ⟨_, rfl⟩
    refine lv_iinc (v := x_2) (lv' := [(1, .int x_2), (0, .int v0)]) hx hb dJInteger_numberOfTrailingZeros_I_55 hl (k := 1) rfl (by rw [ex_2]; rfl) (by decide) rfl (fun ls hl => ?_)
    have h := op_ks ex_2 h
    refine lv_iload_n hx hb dJInteger_numberOfTrailingZeros_I_58 rfl (lv_at hl 1 rfl) ?_
    refine lv_iconst (v := 4) hx hb dJInteger_numberOfTrailingZeros_I_59 (by decide) ?_
    refine lv_iushr hx hb dJInteger_numberOfTrailingZeros_I_60 rfl ?_
    refine lv_topi (fun x_3 ex_3 => ?_)
    have h := op_ks ex_3 h
    refine lv_istore_n (lv' := [(0, .int x_3), (1, .int x_2)]) hx hb dJInteger_numberOfTrailingZeros_I_61 rfl hl (by decide) rfl (fun ls hl => ?_)
    exact bJInteger_numberOfTrailingZeros_I_62 C _ _ _ h (lv_sub hl [0, 1] rfl)
set_option maxHeartbeats 4000000 in
set_option maxRecDepth 100000 in
theorem bJInteger_numberOfTrailingZeros_I_34 {p : Program} {l : Launch} {e : Env} {s : State} {m : MethodId} {below : List Frame} {meth : Method} {c : Code} {AR : Array Value} (C : dc_C p s m AR meth c cJInteger_numberOfTrailingZeros_I 2 (Option.some Jvm.ClassFile.FieldType.int) yJInteger_numberOfTrailingZeros_I) (v0 : Int32) (v1 : Int32) (r : Int32) (h : fJInteger_numberOfTrailingZeros_I_34 v0 v1 = some r) {ls : Array Slot} (hl : lv_has ls 2 [(0, .int v0), (1, .int v1)]) : W p l e ({ frames := 0, cells := 0, slots := 0, locals := 0 }) s m AR below meth c s.heap [] 0 0 (MQ below (cf_Pi (fun x => x = r)) AR s 0 0 (fun _ => False)) (F0 m 34 ls []) := by
  obtain ⟨hx, hb, hr, hts, hown, hlocks, hin, hml⟩ := id C
  refine lv_iload_n hx hb dJInteger_numberOfTrailingZeros_I_34 rfl (lv_at hl 0 rfl) ?_
  refine lv_sipush (v := 256) hx hb dJInteger_numberOfTrailingZeros_I_35 (by decide) ?_
  refine lv_icmp_le (tgt := 49) hx hb dJInteger_numberOfTrailingZeros_I_38 (by decide) (fun c_1 => ?_) (fun c_1 => ?_)
  · have h := op_t c_1 h
    exact bJInteger_numberOfTrailingZeros_I_49 C _ _ _ h (lv_sub hl [0, 1] rfl)
  · have h := op_f c_1 h
    obtain ⟨x_2, ex_2⟩ : ∃ y : Int32, y = v1 + 8 := ⟨_, rfl⟩
    refine lv_iinc (v := x_2) (lv' := [(1, .int x_2), (0, .int v0)]) hx hb dJInteger_numberOfTrailingZeros_I_41 hl (k := 1) rfl (by rw [ex_2]; rfl) (by decide) rfl (fun ls hl => ?_)
    have h := op_ks ex_2 h
    refine lv_iload_n hx hb dJInteger_numberOfTrailingZeros_I_44 rfl (lv_at hl 1 rfl) ?_
    refine lv_bipush (v := 8) hx hb dJInteger_numberOfTrailingZeros_I_45 (by decide) ?_
    refine lv_iushr hx hb dJInteger_numberOfTrailingZeros_I_47 rfl ?_
    refine lv_topi (fun x_3 ex_3 => ?_)
    have h := op_ks ex_3 h
    refine lv_istore_n (lv' := [(0, .int x_3), (1, .int x_2)]) hx hb dJInteger_numberOfTrailingZeros_I_48 rfl hl (by decide) rfl (fun ls hl => ?_)
    exact bJInteger_numberOfTrailingZeros_I_49 C _ _ _ h (lv_sub hl [0, 1] rfl)
set_option maxHeartbeats 4000000 in
set_option maxRecDepth 100000 in
theorem bJInteger_numberOfTrailingZeros_I_0 {p : Program} {l : Launch} {e : Env} {s : State} {m : MethodId} {below : List Frame} {meth : Method} {c : Code} {AR : Array Value} (C : dc_C p s m AR meth c cJInteger_numberOfTrailingZeros_I 2 (Option.some Jvm.ClassFile.FieldType.int) yJInteger_numberOfTrailingZeros_I) (v0 : Int32) (r : Int32) (h : fJInteger_numberOfTrailingZeros_I_0 v0 = some r) {ls : Array Slot} (hl : lv_has ls 2 [(0, .int v0)]) : W p l e ({ frames := 0, cells := 0, slots := 0, locals := 0 }) s m AR below meth c s.heap [] 0 0 (MQ below (cf_Pi (fun x => x = r)) AR s 0 0 (fun _ => False)) (F0 m 0 ls []) := by
  obtain ⟨hx, hb, hr, hts, hown, hlocks, hin, hml⟩ := id C
  refine lv_iload_n hx hb dJInteger_numberOfTrailingZeros_I_0 rfl (lv_at hl 0 rfl) ?_
  refine lv_iconst (v := (-1)) hx hb dJInteger_numberOfTrailingZeros_I_1 (by decide) ?_
  refine lv_ixor hx hb dJInteger_numberOfTrailingZeros_I_2 ?_
  refine lv_topi (fun x_1 ex_1 => ?_)
  have h := op_ks ex_1 h
  refine lv_iload_n hx hb dJInteger_numberOfTrailingZeros_I_3 rfl (lv_at hl 0 rfl) ?_
  refine lv_iconst (v := 1) hx hb dJInteger_numberOfTrailingZeros_I_4 (by decide) ?_
  refine lv_isub hx hb dJInteger_numberOfTrailingZeros_I_5 ?_
  refine lv_topi (fun x_2 ex_2 => ?_)
  have h := op_ks ex_2 h
  refine lv_iand hx hb dJInteger_numberOfTrailingZeros_I_6 ?_
  refine lv_topi (fun x_3 ex_3 => ?_)
  have h := op_ks ex_3 h
  refine lv_istore_n (lv' := [(0, .int x_3)]) hx hb dJInteger_numberOfTrailingZeros_I_7 rfl hl (by decide) rfl (fun ls hl => ?_)
  refine lv_iload_n hx hb dJInteger_numberOfTrailingZeros_I_8 rfl (lv_at hl 0 rfl) ?_
  refine lv_if_gt (tgt := 17) hx hb dJInteger_numberOfTrailingZeros_I_9 (by decide) (fun c_4 => ?_) (fun c_4 => ?_)
  · have h := op_t c_4 h
    refine lv_iconst (v := 1) hx hb dJInteger_numberOfTrailingZeros_I_17 (by decide) ?_
    refine lv_istore_n (lv' := [(1, .int 1), (0, .int x_3)]) hx hb dJInteger_numberOfTrailingZeros_I_18 rfl hl (by decide) rfl (fun ls hl => ?_)
    refine lv_iload_n hx hb dJInteger_numberOfTrailingZeros_I_19 rfl (lv_at hl 1 rfl) ?_
    refine lv_ldcw (v := 65536) hx hb hown (hts _ wv_1261) dJInteger_numberOfTrailingZeros_I_20 ?_
    refine lv_icmp_le (tgt := 34) hx hb dJInteger_numberOfTrailingZeros_I_23 (by decide) (fun c_5 => ?_) (fun c_5 => ?_)
    · have h := op_t c_5 h
      exact bJInteger_numberOfTrailingZeros_I_34 C _ _ _ h (lv_sub hl [1, 0] rfl)
    · have h := op_f c_5 h
      refine lv_iinc (v := 17) (lv' := [(1, .int 17), (0, .int x_3)]) hx hb dJInteger_numberOfTrailingZeros_I_26 hl (k := 0) rfl (by decide) (by decide) rfl (fun ls hl => ?_)
      refine lv_iload_n hx hb dJInteger_numberOfTrailingZeros_I_29 rfl (lv_at hl 1 rfl) ?_
      refine lv_bipush (v := 16) hx hb dJInteger_numberOfTrailingZeros_I_30 (by decide) ?_
      refine lv_iushr hx hb dJInteger_numberOfTrailingZeros_I_32 rfl ?_
      refine lv_topi (fun x_6 ex_6 => ?_)
      have h := op_ks ex_6 h
      refine lv_istore_n (lv' := [(0, .int x_6), (1, .int 17)]) hx hb dJInteger_numberOfTrailingZeros_I_33 rfl hl (by decide) rfl (fun ls hl => ?_)
      exact bJInteger_numberOfTrailingZeros_I_34 C _ _ _ h (lv_sub hl [0, 1] rfl)
  · have h := op_f c_4 h
    refine lv_iload_n hx hb dJInteger_numberOfTrailingZeros_I_12 rfl (lv_at hl 0 rfl) ?_
    refine lv_bipush (v := 32) hx hb dJInteger_numberOfTrailingZeros_I_13 (by decide) ?_
    refine lv_iand hx hb dJInteger_numberOfTrailingZeros_I_15 ?_
    refine lv_topi (fun x_7 ex_7 => ?_)
    have h := op_ks ex_7 h
    obtain rfl := Option.some.inj h
    exact W.iret hx hb hr (fun t ht hW => ⟨_, rfl, rfl, ht⟩) cf_pnil dJInteger_numberOfTrailingZeros_I_16 hlocks
theorem mJInteger_numberOfTrailingZeros_I (l : Launch) (v0 : Int32) (r : Int32) (h : fJInteger_numberOfTrailingZeros_I v0 = some r) : Met l yJInteger_numberOfTrailingZeros_I (Cond.code yJInteger_numberOfTrailingZeros_I cJInteger_numberOfTrailingZeros_I 2 (Option.some Jvm.ClassFile.FieldType.int) :: cfB) ({ frames := 0, cells := 0, slots := 0, locals := 0 }) (fun v _ => v = ([.int v0] : List Value).toArray) (cf_Pi (fun x => x = r)) 0 0 (fun _ => False) := by
  refine cf_ofP (y := yJInteger_numberOfTrailingZeros_I) (As := [.int v0]) (maxL := 2) (cf_Pi (fun x => x = r)) (by decide) (Nat.le_of_ble_eq_true rfl) ?_
  intro p e s m below meth c ls C hl
  exact bJInteger_numberOfTrailingZeros_I_0 (l := l) C v0 r h hl
set_option maxHeartbeats 4000000 in
set_option maxRecDepth 100000 in
theorem bJLong_numberOfTrailingZeros_J_25 {p : Program} {l : Launch} {e : Env} {s : State} {m : MethodId} {below : List Frame} {meth : Method} {c : Code} {AR : Array Value} (C : dc_C p s m AR meth c cJLong_numberOfTrailingZeros_J 3 (Option.some Jvm.ClassFile.FieldType.int) yJLong_numberOfTrailingZeros_J) (s0 : Int32) (r : Int32) (h : fJLong_numberOfTrailingZeros_J_25 s0 = some r) {ls : Array Slot} (hl : lv_has ls 3 []) : W p l e ({ frames := 1, cells := 0, slots := 0, locals := 21 }) s m AR below meth c s.heap [] 0 0 (MQ below (cf_Pi (fun x => x = r)) AR s 0 0 (fun _ => False)) (F0 m 25 ls [.int s0]) := by
  obtain ⟨hx, hb, hr, hts, hown, hlocks, hin, hml⟩ := id C
  obtain rfl := Option.some.inj h
  exact W.iret hx hb hr (fun t ht hW => ⟨_, rfl, rfl, ht⟩) cf_pnil dJLong_numberOfTrailingZeros_J_25 hlocks
set_option maxHeartbeats 4000000 in
set_option maxRecDepth 100000 in
theorem bJLong_numberOfTrailingZeros_J_0 {p : Program} {l : Launch} {e : Env} {s : State} {m : MethodId} {below : List Frame} {meth : Method} {c : Code} {AR : Array Value} (C : dc_C p s m AR meth c cJLong_numberOfTrailingZeros_J 3 (Option.some Jvm.ClassFile.FieldType.int) yJLong_numberOfTrailingZeros_J) (v0 : Int64) (r : Int32) (h : fJLong_numberOfTrailingZeros_J_0 v0 = some r) {ls : Array Slot} (hl : lv_has ls 3 [(0, .long v0)]) : W p l e ({ frames := 1, cells := 0, slots := 0, locals := 21 }) s m AR below meth c s.heap [] 0 0 (MQ below (cf_Pi (fun x => x = r)) AR s 0 0 (fun _ => False)) (F0 m 0 ls []) := by
  obtain ⟨hx, hb, hr, hts, hown, hlocks, hin, hml⟩ := id C
  refine lv_lload_n hx hb dJLong_numberOfTrailingZeros_J_0 rfl (lv_at hl 0 rfl) ?_
  refine lv_l2i hx hb dJLong_numberOfTrailingZeros_J_1 rfl ?_
  refine lv_topi (fun x_1 ex_1 => ?_)
  have h := op_ks ex_1 h
  refine lv_istore_n (lv' := [(2, .int x_1), (0, .long v0)]) hx hb dJLong_numberOfTrailingZeros_J_2 rfl hl (by decide) rfl (fun ls hl => ?_)
  refine lv_iload_n hx hb dJLong_numberOfTrailingZeros_J_3 rfl (lv_at hl 0 rfl) ?_
  refine lv_if_ne (tgt := 21) hx hb dJLong_numberOfTrailingZeros_J_4 (by decide) (fun c_2 => ?_) (fun c_2 => ?_)
  · have h := op_f c_2 h
    refine lv_iload_n hx hb dJLong_numberOfTrailingZeros_J_21 rfl (lv_at hl 0 rfl) ?_
    obtain ⟨q_3, hq_3, h⟩ := op_b h
    refine cf_pcalli (va_runS (As := [.int x_1]) (rest := []) ⟨hx, hb, hml, hown, hts⟩ (mJInteger_numberOfTrailingZeros_I l x_1 _ hq_3) (va_cwS 1 hts (cf_GS wv_1258 wv_1259 wv_186 wv_1260) rfl rfl rfl (by decide +kernel) ⟨Nat.le_of_ble_eq_true rfl, Nat.le_of_ble_eq_true rfl⟩) preEq rfl rfl hl.1 rfl (lv_room (Nat.le_of_ble_eq_true rfl)) dJLong_numberOfTrailingZeros_J_22 ⟨Nat.le_of_ble_eq_true rfl, Nat.le_of_ble_eq_true rfl⟩) (fun r_4 hw_5 => ?_)
    subst r_4
    exact bJLong_numberOfTrailingZeros_J_25 C _ _ h (lv_sub hl [] rfl)
  · have h := op_t c_2 h
    refine lv_bipush (v := 32) hx hb dJLong_numberOfTrailingZeros_J_7 (by decide) ?_
    refine lv_lload_n hx hb dJLong_numberOfTrailingZeros_J_9 rfl (lv_at hl 1 rfl) ?_
    refine lv_bipush (v := 32) hx hb dJLong_numberOfTrailingZeros_J_10 (by decide) ?_
    refine lv_lushr hx hb dJLong_numberOfTrailingZeros_J_12 rfl ?_
    refine lv_topl (fun x_6 ex_6 => ?_)
    have h := op_ks ex_6 h
    refine lv_l2i hx hb dJLong_numberOfTrailingZeros_J_13 rfl ?_
    refine lv_topi (fun x_7 ex_7 => ?_)
    have h := op_ks ex_7 h
    obtain ⟨q_8, hq_8, h⟩ := op_b h
    refine cf_pcalli (va_runS (As := [.int x_7]) (rest := [.int 32]) ⟨hx, hb, hml, hown, hts⟩ (mJInteger_numberOfTrailingZeros_I l x_7 _ hq_8) (va_cwS 1 hts (cf_GS wv_1258 wv_1259 wv_186 wv_1260) rfl rfl rfl (by decide +kernel) ⟨Nat.le_of_ble_eq_true rfl, Nat.le_of_ble_eq_true rfl⟩) preEq rfl rfl hl.1 rfl (lv_room (Nat.le_of_ble_eq_true rfl)) dJLong_numberOfTrailingZeros_J_14 ⟨Nat.le_of_ble_eq_true rfl, Nat.le_of_ble_eq_true rfl⟩) (fun r_9 hw_10 => ?_)
    subst r_9
    refine lv_iadd hx hb dJLong_numberOfTrailingZeros_J_17 ?_
    refine lv_topi (fun x_11 ex_11 => ?_)
    have h := op_ks ex_11 h
    refine lv_goto (tgt := 25) hx hb dJLong_numberOfTrailingZeros_J_18 (by decide) ?_
    exact bJLong_numberOfTrailingZeros_J_25 C _ _ h (lv_sub hl [] rfl)
theorem mJLong_numberOfTrailingZeros_J (l : Launch) (v0 : Int64) (r : Int32) (h : fJLong_numberOfTrailingZeros_J v0 = some r) : Met l yJLong_numberOfTrailingZeros_J (Cond.code yJLong_numberOfTrailingZeros_J cJLong_numberOfTrailingZeros_J 3 (Option.some Jvm.ClassFile.FieldType.int) :: cfB) ({ frames := 1, cells := 0, slots := 0, locals := 21 }) (fun v _ => v = ([.long v0] : List Value).toArray) (cf_Pi (fun x => x = r)) 0 0 (fun _ => False) := by
  refine cf_ofP (y := yJLong_numberOfTrailingZeros_J) (As := [.long v0]) (maxL := 3) (cf_Pi (fun x => x = r)) (by decide) (Nat.le_of_ble_eq_true rfl) ?_
  intro p e s m below meth c ls C hl
  exact bJLong_numberOfTrailingZeros_J_0 (l := l) C v0 r h hl
def IhFu_leastUnlike (p : Program) (l : Launch) (e : Env) (s : State) (m : MethodId) (below : List Frame) (meth : Method) (c : Code) (A : Nat → Prop) (D : va_G) (K : Nat → ClassId) (h0 : Nat) (a0 : Nat → Nat) (AR : Array Value) (n : Nat) : Prop := (∀ (v1 : Int32) (v2 : Int32) (v3 : Int32) (o0 : cf_O) (r : Int32), gFu_leastUnlike n 0 v1 v2 v3 o0 = some r → ∀ {H : Heap} {locs : List Loc} {ls : Array Slot}, (va_P D vwCl (wFu K h0 a0 o0) H) → (va_D A (wFu K h0 a0 o0)) → va_S A s.heap H locs → lv_has ls 6 [(0, .ref h0), (1, .int v1), (2, .int v2), (3, .int v3)] → W p l e ({ frames := 2, cells := 0, slots := 0, locals := 43 }) s m AR below meth c H locs 0 0 (MQ below (va_Qi (fun (x : Int32) (_ : Unit) => x = r) (fun (_ : Unit) t => cf_At D A (wFu K h0 a0 o0) t) A) AR s 0 0 A) (F0 m 2 ls []))
set_option maxHeartbeats 4000000 in
set_option maxRecDepth 100000 in
theorem bFu_leastUnlike_2 {p : Program} {l : Launch} {e : Env} {s : State} {m : MethodId} {below : List Frame} {meth : Method} {c : Code} {A : Nat → Prop} {D : va_G} {K : Nat → ClassId} {h0 : Nat} {a0 : Nat → Nat} {AR : Array Value} (C : (dc_C p s m AR meth c cFu_leastUnlike 6 (Option.some Jvm.ClassFile.FieldType.int) yFu_leastUnlike ∧ cf_E D K A s s.heap ∧ ∀ q, s.heap.size ≤ q → A q)) {n : Nat} (ih : IhFu_leastUnlike p l e s m below meth c A D K h0 a0 AR n) (v1 : Int32) (v2 : Int32) (v3 : Int32) (o0 : cf_O) (r : Int32) (h : fFu_leastUnlike_2 (gFu_leastUnlike n) v1 v2 v3 o0 = some r) {H : Heap} {locs : List Loc} {ls : Array Slot} (hP : va_P D vwCl (wFu K h0 a0 o0) H) (hD : va_D A (wFu K h0 a0 o0)) (hS : va_S A s.heap H locs) (hl : lv_has ls 6 [(0, .ref h0), (1, .int v1), (2, .int v2), (3, .int v3)]) : W p l e ({ frames := 2, cells := 0, slots := 0, locals := 43 }) s m AR below meth c H locs 0 0 (MQ below (va_Qi (fun (x : Int32) (_ : Unit) => x = r) (fun (_ : Unit) t => cf_At D A (wFu K h0 a0 o0) t) A) AR s 0 0 A) (F0 m 2 ls []) := by
  obtain ⟨⟨hx, hb, hr, hts, hown, hlocks, hin, hml⟩, hE, hA⟩ := id C
  have hK := hE.k
  refine lv_iload_n hx hb dFu_leastUnlike_2 rfl (lv_at hl 3 rfl) ?_
  refine lv_iconst (v := 4) hx hb dFu_leastUnlike_3 (by decide) ?_
  refine lv_icmp_ge (tgt := 46) hx hb dFu_leastUnlike_4 (by decide) (fun c_1 => ?_) (fun c_1 => ?_)
  · have h := op_t c_1 h
    refine lv_iconst (v := (-1)) hx hb dFu_leastUnlike_46 (by decide) ?_
    obtain rfl := Option.some.inj h
    exact dc_iret hx hb hr hlocks rfl hP hD hS dFu_leastUnlike_47
  · have h := op_f c_1 h
    refine lv_aload_n hx hb dFu_leastUnlike_7 rfl (lv_at hl 0 rfl) ?_
    refine lv_iload_n hx hb dFu_leastUnlike_8 rfl (lv_at hl 1 rfl) ?_
    refine lv_iload_n hx hb dFu_leastUnlike_9 rfl (lv_at hl 3 rfl) ?_
    obtain ⟨q_2, hq_2, h⟩ := op_b h
    refine dc_calll (va_runV (As := [.int v1, .int v3]) (rest := []) ⟨hx, hb, hml, hown, hts⟩ (mFu_word l D K _ v1 v3 h0 a0 o0 _ hq_2) (cwV 2 hts (cf_GV wv_1173 wv_1175 wv_25 wv_159 wv_1176) rfl rfl rfl (by decide +kernel) ⟨Nat.le_of_ble_eq_true rfl, Nat.le_of_ble_eq_true rfl⟩) (dc_preV hE hP hD hS hA rfl 0 rfl) rfl rfl hl.1 rfl (lv_room (Nat.le_of_ble_eq_true rfl)) dFu_leastUnlike_10 ⟨Nat.le_of_ble_eq_true rfl, Nat.le_of_ble_eq_true rfl⟩) hP hD hS hA (fun r_3 H locs hw_4 hP hD hS => ?_)
    subst r_3
    refine lv_aload_n hx hb dFu_leastUnlike_13 rfl (lv_at hl 0 rfl) ?_
    refine lv_iload_n hx hb dFu_leastUnlike_14 rfl (lv_at hl 2 rfl) ?_
    refine lv_iload_n hx hb dFu_leastUnlike_15 rfl (lv_at hl 3 rfl) ?_
    obtain ⟨q_5, hq_5, h⟩ := op_b h
    refine dc_calll (va_runV (As := [.int v2, .int v3]) (rest := [.long q_2]) ⟨hx, hb, hml, hown, hts⟩ (mFu_word l D K _ v2 v3 h0 a0 o0 _ hq_5) (cwV 2 hts (cf_GV wv_1173 wv_1175 wv_25 wv_159 wv_1176) rfl rfl rfl (by decide +kernel) ⟨Nat.le_of_ble_eq_true rfl, Nat.le_of_ble_eq_true rfl⟩) (dc_preV hE hP hD hS hA rfl 0 rfl) rfl rfl hl.1 rfl (lv_room (Nat.le_of_ble_eq_true rfl)) dFu_leastUnlike_16 ⟨Nat.le_of_ble_eq_true rfl, Nat.le_of_ble_eq_true rfl⟩) hP hD hS hA (fun r_6 H locs hw_7 hP hD hS => ?_)
    subst r_6
    refine lv_lxor hx hb dFu_leastUnlike_19 ?_
    refine lv_topl (fun x_8 ex_8 => ?_)
    have h := op_ks ex_8 h
    refine lv_lstore (lv' := [(4, .long x_8), (0, .ref h0), (1, .int v1), (2, .int v2), (3, .int v3)]) hx hb dFu_leastUnlike_20 hl (by decide) rfl (fun ls hl => ?_)
    refine lv_lload hx hb dFu_leastUnlike_22 (lv_at hl 0 rfl) ?_
    refine lv_lconst (v := 0) hx hb dFu_leastUnlike_24 (by decide) ?_
    refine W.lcmp hx hb dFu_leastUnlike_25 ?_
    refine lv_topi (fun x_9 ex_9 => ?_)
    have h := op_ks ex_9 h
    refine lv_if_eq (tgt := 40) hx hb dFu_leastUnlike_26 (by decide) (fun c_10 => ?_) (fun c_10 => ?_)
    · have h := op_t c_10 h
      obtain ⟨x_11, ex_11⟩ : ∃ y : Int32, y = v3 + 1 := ⟨_, rfl⟩
      refine lv_iinc (v := x_11) (lv' := [(3, .int x_11), (4, .long x_8), (0, .ref h0), (1, .int v1), (2, .int v2)]) hx hb dFu_leastUnlike_40 hl (k := 4) rfl (by rw [ex_11]; rfl) (by decide) rfl (fun ls hl => ?_)
      have h := op_ks ex_11 h
      refine lv_goto (tgt := 2) hx hb dFu_leastUnlike_43 (by decide) ?_
      exact (ih) _ _ _ _ _ h hP hD hS (lv_sub hl [2, 3, 4, 0] rfl)
    · have h := op_f c_10 h
      refine lv_bipush (v := 64) hx hb dFu_leastUnlike_29 (by decide) ?_
      refine lv_iload_n hx hb dFu_leastUnlike_31 rfl (lv_at hl 4 rfl) ?_
      refine lv_imul hx hb dFu_leastUnlike_32 ?_
      refine lv_topi (fun x_12 ex_12 => ?_)
      have h := op_ks ex_12 h
      refine lv_lload hx hb dFu_leastUnlike_33 (lv_at hl 0 rfl) ?_
      obtain ⟨q_13, hq_13, h⟩ := op_b h
      refine cf_pcalli (va_runS (As := [.long x_8]) (rest := [.int x_12]) ⟨hx, hb, hml, hown, hts⟩ (mJLong_numberOfTrailingZeros_J l x_8 _ hq_13) (va_cwS 1 hts (cf_GS wv_1255 wv_1256 wv_185 wv_1257) rfl rfl rfl (by decide +kernel) ⟨Nat.le_of_ble_eq_true rfl, Nat.le_of_ble_eq_true rfl⟩) preEq rfl rfl hl.1 rfl (lv_room (Nat.le_of_ble_eq_true rfl)) dFu_leastUnlike_35 ⟨Nat.le_of_ble_eq_true rfl, Nat.le_of_ble_eq_true rfl⟩) (fun r_14 hw_15 => ?_)
      subst r_14
      refine lv_iadd hx hb dFu_leastUnlike_38 ?_
      refine lv_topi (fun x_16 ex_16 => ?_)
      have h := op_ks ex_16 h
      obtain rfl := Option.some.inj h
      exact dc_iret hx hb hr hlocks rfl hP hD hS dFu_leastUnlike_39
set_option maxHeartbeats 4000000 in
set_option maxRecDepth 100000 in
theorem bFu_leastUnlike_0 {p : Program} {l : Launch} {e : Env} {s : State} {m : MethodId} {below : List Frame} {meth : Method} {c : Code} {A : Nat → Prop} {D : va_G} {K : Nat → ClassId} {h0 : Nat} {a0 : Nat → Nat} {AR : Array Value} (C : (dc_C p s m AR meth c cFu_leastUnlike 6 (Option.some Jvm.ClassFile.FieldType.int) yFu_leastUnlike ∧ cf_E D K A s s.heap ∧ ∀ q, s.heap.size ≤ q → A q)) {n : Nat} (ih : IhFu_leastUnlike p l e s m below meth c A D K h0 a0 AR n) (v1 : Int32) (v2 : Int32) (o0 : cf_O) (r : Int32) (h : fFu_leastUnlike_0 (gFu_leastUnlike n) v1 v2 o0 = some r) {H : Heap} {locs : List Loc} {ls : Array Slot} (hP : va_P D vwCl (wFu K h0 a0 o0) H) (hD : va_D A (wFu K h0 a0 o0)) (hS : va_S A s.heap H locs) (hl : lv_has ls 6 [(0, .ref h0), (1, .int v1), (2, .int v2)]) : W p l e ({ frames := 2, cells := 0, slots := 0, locals := 43 }) s m AR below meth c H locs 0 0 (MQ below (va_Qi (fun (x : Int32) (_ : Unit) => x = r) (fun (_ : Unit) t => cf_At D A (wFu K h0 a0 o0) t) A) AR s 0 0 A) (F0 m 0 ls []) := by
  obtain ⟨⟨hx, hb, hr, hts, hown, hlocks, hin, hml⟩, hE, hA⟩ := id C
  have hK := hE.k
  refine lv_iconst (v := 0) hx hb dFu_leastUnlike_0 (by decide) ?_
  refine lv_istore_n (lv' := [(3, .int 0), (0, .ref h0), (1, .int v1), (2, .int v2)]) hx hb dFu_leastUnlike_1 rfl hl (by decide) rfl (fun ls hl => ?_)
  exact (ih) _ _ _ _ _ h hP hD hS (lv_sub hl [1, 2, 3, 0] rfl)
theorem iFu_leastUnlike {p : Program} {l : Launch} {e : Env} {s : State} {m : MethodId} {below : List Frame} {meth : Method} {c : Code} {A : Nat → Prop} {D : va_G} {K : Nat → ClassId} {h0 : Nat} {a0 : Nat → Nat} {AR : Array Value} (C : (dc_C p s m AR meth c cFu_leastUnlike 6 (Option.some Jvm.ClassFile.FieldType.int) yFu_leastUnlike ∧ cf_E D K A s s.heap ∧ ∀ q, s.heap.size ≤ q → A q)) : ∀ n, IhFu_leastUnlike p l e s m below meth c A D K h0 a0 AR n := by
  intro n
  induction n with
  | zero => exact (fun _ _ _ _ r h => by cases (show none = some r from h))
  | succ n ih => exact fun x0 x1 x2 x3 r h _ _ _ hP hD hS hl => bFu_leastUnlike_2 C ih x0 x1 x2 x3 r h hP hD hS hl
set_option maxRecDepth 100000 in
theorem mFu_leastUnlike (l : Launch) (D : va_G) (K : Nat → ClassId) (sz : Nat) (v1 : Int32) (v2 : Int32) (h0 : Nat) (a0 : Nat → Nat) (o0 : cf_O) (r : Int32) (h : fFu_leastUnlike v1 v2 o0 = some r) : Met l yFu_leastUnlike (Cond.code yFu_leastUnlike cFu_leastUnlike 6 (Option.some Jvm.ClassFile.FieldType.int) :: cfB) ({ frames := 2, cells := 0, slots := 0, locals := 43 }) (va_Pc [.ref h0, .int v1, .int v2] (cf_Pre D K sz (wFu K h0 a0 o0))) (va_Qi (fun (x : Int32) (_ : Unit) => x = r) (fun (_ : Unit) t => cf_At D (va_A (wFu K h0 a0 o0) sz) (wFu K h0 a0 o0) t) (va_A (wFu K h0 a0 o0) sz)) 0 0 (va_A (wFu K h0 a0 o0) sz) := by
  refine cf_ofW (y := yFu_leastUnlike) (As := [.ref h0, .int v1, .int v2]) (WS := wFu K h0 a0 o0) (maxL := 6) (fun A => (va_Qi (fun (x : Int32) (_ : Unit) => x = r) (fun (_ : Unit) t => cf_At D A (wFu K h0 a0 o0) t) A)) (by decide) (Nat.le_of_ble_eq_true rfl) ?_
  intro p e s m below meth c A ls En hsz hA hP hD hE hS hl
  have C : (dc_C p s m (([.ref h0, .int v1, .int v2] : List Value).toArray) meth c cFu_leastUnlike 6 (Option.some Jvm.ClassFile.FieldType.int) yFu_leastUnlike ∧ cf_E D K A s s.heap ∧ ∀ q, s.heap.size ≤ q → A q) := ⟨En, hE, hA⟩
  exact bFu_leastUnlike_0 C (iFu_leastUnlike C cfFU) v1 v2 o0 r h hP hD hS hl
set_option maxHeartbeats 4000000 in
set_option maxRecDepth 100000 in
theorem bFu_areSame_15 {p : Program} {l : Launch} {e : Env} {s : State} {m : MethodId} {below : List Frame} {meth : Method} {c : Code} {A : Nat → Prop} {D : va_G} {K : Nat → ClassId} {h0 : Nat} {a0 : Nat → Nat} {AR : Array Value} (C : (dc_C p s m AR meth c cFu_areSame 3 (Option.some Jvm.ClassFile.FieldType.boolean) yFu_areSame ∧ cf_E D K A s s.heap ∧ ∀ q, s.heap.size ≤ q → A q)) (s0 : Int32) (o0 : cf_O) (r : Int32) (h : fFu_areSame_15 s0 o0 = some r) {H : Heap} {locs : List Loc} {ls : Array Slot} (hP : va_P D vwCl (wFu K h0 a0 o0) H) (hD : va_D A (wFu K h0 a0 o0)) (hS : va_S A s.heap H locs) (hl : lv_has ls 3 []) : W p l e ({ frames := 3, cells := 0, slots := 0, locals := 68 }) s m AR below meth c H locs 0 0 (MQ below (va_Qi (fun (x : Int32) (_ : Unit) => x = r) (fun (_ : Unit) t => cf_At D A (wFu K h0 a0 o0) t) A) AR s 0 0 A) (F0 m 15 ls [.int s0]) := by
  obtain ⟨⟨hx, hb, hr, hts, hown, hlocks, hin, hml⟩, hE, hA⟩ := id C
  have hK := hE.k
  obtain ⟨hz_1, h⟩ := op_w h
  obtain rfl := Option.some.inj h
  exact dc_zret hx hb hr (op_z hz_1) hlocks rfl hP hD hS dFu_areSame_15
set_option maxHeartbeats 4000000 in
set_option maxRecDepth 100000 in
theorem bFu_areSame_0 {p : Program} {l : Launch} {e : Env} {s : State} {m : MethodId} {below : List Frame} {meth : Method} {c : Code} {A : Nat → Prop} {D : va_G} {K : Nat → ClassId} {h0 : Nat} {a0 : Nat → Nat} {AR : Array Value} (C : (dc_C p s m AR meth c cFu_areSame 3 (Option.some Jvm.ClassFile.FieldType.boolean) yFu_areSame ∧ cf_E D K A s s.heap ∧ ∀ q, s.heap.size ≤ q → A q)) (v1 : Int32) (v2 : Int32) (o0 : cf_O) (r : Int32) (h : fFu_areSame_0 v1 v2 o0 = some r) {H : Heap} {locs : List Loc} {ls : Array Slot} (hP : va_P D vwCl (wFu K h0 a0 o0) H) (hD : va_D A (wFu K h0 a0 o0)) (hS : va_S A s.heap H locs) (hl : lv_has ls 3 [(0, .ref h0), (1, .int v1), (2, .int v2)]) : W p l e ({ frames := 3, cells := 0, slots := 0, locals := 68 }) s m AR below meth c H locs 0 0 (MQ below (va_Qi (fun (x : Int32) (_ : Unit) => x = r) (fun (_ : Unit) t => cf_At D A (wFu K h0 a0 o0) t) A) AR s 0 0 A) (F0 m 0 ls []) := by
  obtain ⟨⟨hx, hb, hr, hts, hown, hlocks, hin, hml⟩, hE, hA⟩ := id C
  have hK := hE.k
  refine lv_aload_n hx hb dFu_areSame_0 rfl (lv_at hl 0 rfl) ?_
  refine lv_iload_n hx hb dFu_areSame_1 rfl (lv_at hl 1 rfl) ?_
  refine lv_iload_n hx hb dFu_areSame_2 rfl (lv_at hl 2 rfl) ?_
  obtain ⟨q_1, hq_1, h⟩ := op_b h
  refine dc_calli (va_runV (As := [.int v1, .int v2]) (rest := []) ⟨hx, hb, hml, hown, hts⟩ (mFu_leastUnlike l D K _ v1 v2 h0 a0 o0 _ hq_1) (cwV 2 hts (cf_GV wv_1251 wv_1252 wv_1253 wv_159 wv_1254) rfl rfl rfl (by decide +kernel) ⟨Nat.le_of_ble_eq_true rfl, Nat.le_of_ble_eq_true rfl⟩) (dc_preV hE hP hD hS hA rfl 0 rfl) rfl rfl hl.1 rfl (lv_room (Nat.le_of_ble_eq_true rfl)) dFu_areSame_3 ⟨Nat.le_of_ble_eq_true rfl, Nat.le_of_ble_eq_true rfl⟩) hP hD hS hA (fun r_2 H locs hw_3 hP hD hS => ?_)
  subst r_2
  refine lv_iconst (v := (-1)) hx hb dFu_areSame_6 (by decide) ?_
  refine lv_icmp_ne (tgt := 14) hx hb dFu_areSame_7 (by decide) (fun c_4 => ?_) (fun c_4 => ?_)
  · have h := op_f c_4 h
    refine lv_iconst (v := 0) hx hb dFu_areSame_14 (by decide) ?_
    exact bFu_areSame_15 C _ _ _ h hP hD hS (lv_sub hl [] rfl)
  · have h := op_t c_4 h
    refine lv_iconst (v := 1) hx hb dFu_areSame_10 (by decide) ?_
    refine lv_goto (tgt := 15) hx hb dFu_areSame_11 (by decide) ?_
    exact bFu_areSame_15 C _ _ _ h hP hD hS (lv_sub hl [] rfl)
set_option maxRecDepth 100000 in
theorem mFu_areSame (l : Launch) (D : va_G) (K : Nat → ClassId) (sz : Nat) (v1 : Int32) (v2 : Int32) (h0 : Nat) (a0 : Nat → Nat) (o0 : cf_O) (r : Int32) (h : fFu_areSame v1 v2 o0 = some r) : Met l yFu_areSame (Cond.code yFu_areSame cFu_areSame 3 (Option.some Jvm.ClassFile.FieldType.boolean) :: cfB) ({ frames := 3, cells := 0, slots := 0, locals := 68 }) (va_Pc [.ref h0, .int v1, .int v2] (cf_Pre D K sz (wFu K h0 a0 o0))) (va_Qi (fun (x : Int32) (_ : Unit) => x = r) (fun (_ : Unit) t => cf_At D (va_A (wFu K h0 a0 o0) sz) (wFu K h0 a0 o0) t) (va_A (wFu K h0 a0 o0) sz)) 0 0 (va_A (wFu K h0 a0 o0) sz) := by
  refine cf_ofW (y := yFu_areSame) (As := [.ref h0, .int v1, .int v2]) (WS := wFu K h0 a0 o0) (maxL := 3) (fun A => (va_Qi (fun (x : Int32) (_ : Unit) => x = r) (fun (_ : Unit) t => cf_At D A (wFu K h0 a0 o0) t) A)) (by decide) (Nat.le_of_ble_eq_true rfl) ?_
  intro p e s m below meth c A ls En hsz hA hP hD hE hS hl
  have C : (dc_C p s m (([.ref h0, .int v1, .int v2] : List Value).toArray) meth c cFu_areSame 3 (Option.some Jvm.ClassFile.FieldType.boolean) yFu_areSame ∧ cf_E D K A s s.heap ∧ ∀ q, s.heap.size ≤ q → A q) := ⟨En, hE, hA⟩
  exact bFu_areSame_0 C v1 v2 o0 r h hP hD hS hl
def IhFu_ones (p : Program) (l : Launch) (e : Env) (s : State) (m : MethodId) (below : List Frame) (meth : Method) (c : Code) (A : Nat → Prop) (D : va_G) (K : Nat → ClassId) (h0 : Nat) (a0 : Nat → Nat) (AR : Array Value) (n : Nat) : Prop := (∀ (v1 : Int32) (v2 : Int32) (v3 : Int32) (v4 : Int32) (o0 : cf_O) (r : Int32), gFu_ones n 0 v1 v2 v3 v4 o0 = some r → ∀ {H : Heap} {locs : List Loc} {ls : Array Slot}, (va_P D vwCl (wFu K h0 a0 o0) H) → (va_D A (wFu K h0 a0 o0)) → va_S A s.heap H locs → lv_has ls 5 [(0, .ref h0), (1, .int v1), (2, .int v2), (3, .int v3), (4, .int v4)] → W p l e ({ frames := 1, cells := 0, slots := 0, locals := 22 }) s m AR below meth c H locs 0 0 (MQ below (va_Qi (fun (x : Int32) (_ : Unit) => x = r) (fun (_ : Unit) t => cf_At D A (wFu K h0 a0 o0) t) A) AR s 0 0 A) (F0 m 5 ls []))
set_option maxHeartbeats 4000000 in
set_option maxRecDepth 100000 in
theorem bFu_ones_5 {p : Program} {l : Launch} {e : Env} {s : State} {m : MethodId} {below : List Frame} {meth : Method} {c : Code} {A : Nat → Prop} {D : va_G} {K : Nat → ClassId} {h0 : Nat} {a0 : Nat → Nat} {AR : Array Value} (C : (dc_C p s m AR meth c cFu_ones 5 (Option.some Jvm.ClassFile.FieldType.int) yFu_ones ∧ cf_E D K A s s.heap ∧ ∀ q, s.heap.size ≤ q → A q)) {n : Nat} (ih : IhFu_ones p l e s m below meth c A D K h0 a0 AR n) (v1 : Int32) (v2 : Int32) (v3 : Int32) (v4 : Int32) (o0 : cf_O) (r : Int32) (h : fFu_ones_5 (gFu_ones n) v1 v2 v3 v4 o0 = some r) {H : Heap} {locs : List Loc} {ls : Array Slot} (hP : va_P D vwCl (wFu K h0 a0 o0) H) (hD : va_D A (wFu K h0 a0 o0)) (hS : va_S A s.heap H locs) (hl : lv_has ls 5 [(0, .ref h0), (1, .int v1), (2, .int v2), (3, .int v3), (4, .int v4)]) : W p l e ({ frames := 1, cells := 0, slots := 0, locals := 22 }) s m AR below meth c H locs 0 0 (MQ below (va_Qi (fun (x : Int32) (_ : Unit) => x = r) (fun (_ : Unit) t => cf_At D A (wFu K h0 a0 o0) t) A) AR s 0 0 A) (F0 m 5 ls []) := by
  obtain ⟨⟨hx, hb, hr, hts, hown, hlocks, hin, hml⟩, hE, hA⟩ := id C
  have hK := hE.k
  refine lv_iload hx hb dFu_ones_5 (lv_at hl 4 rfl) ?_
  refine lv_iconst (v := 4) hx hb dFu_ones_7 (by decide) ?_
  refine lv_icmp_ge (tgt := 30) hx hb dFu_ones_8 (by decide) (fun c_1 => ?_) (fun c_1 => ?_)
  · have h := op_t c_1 h
    refine lv_iload_n hx hb dFu_ones_30 rfl (lv_at hl 3 rfl) ?_
    refine lv_bipush (v := 8) hx hb dFu_ones_31 (by decide) ?_
    refine lv_iload_n hx hb dFu_ones_33 rfl (lv_at hl 2 rfl) ?_
    refine lv_isub hx hb dFu_ones_34 ?_
    refine lv_topi (fun x_2 ex_2 => ?_)
    have h := op_ks ex_2 h
    refine lv_ishr hx hb dFu_ones_35 ?_
    refine lv_topi (fun x_3 ex_3 => ?_)
    have h := op_ks ex_3 h
    obtain rfl := Option.some.inj h
    exact dc_iret hx hb hr hlocks rfl hP hD hS dFu_ones_36
  · have h := op_f c_1 h
    refine lv_iload_n hx hb dFu_ones_11 rfl (lv_at hl 3 rfl) ?_
    refine lv_aload_n hx hb dFu_ones_12 rfl (lv_at hl 0 rfl) ?_
    refine lv_iload_n hx hb dFu_ones_13 rfl (lv_at hl 1 rfl) ?_
    refine lv_iload hx hb dFu_ones_14 (lv_at hl 4 rfl) ?_
    obtain ⟨q_4, hq_4, h⟩ := op_b h
    refine dc_calll (va_runV (As := [.int v1, .int v4]) (rest := [.int v3]) ⟨hx, hb, hml, hown, hts⟩ (mFu_word l D K _ v1 v4 h0 a0 o0 _ hq_4) (cwV 2 hts (cf_GV wv_1173 wv_1175 wv_25 wv_159 wv_1176) rfl rfl rfl (by decide +kernel) ⟨Nat.le_of_ble_eq_true rfl, Nat.le_of_ble_eq_true rfl⟩) (dc_preV hE hP hD hS hA rfl 0 rfl) rfl rfl hl.1 rfl (lv_room (Nat.le_of_ble_eq_true rfl)) dFu_ones_16 ⟨Nat.le_of_ble_eq_true rfl, Nat.le_of_ble_eq_true rfl⟩) hP hD hS hA (fun r_5 H locs hw_6 hP hD hS => ?_)
    subst r_5
    obtain ⟨q_7, hq_7, h⟩ := op_b h
    refine cf_pcalli (va_runS (As := [.long q_4]) (rest := [.int v3]) ⟨hx, hb, hml, hown, hts⟩ (mJLong_bitCount_J l q_4 _ hq_7) (va_cwS 1 hts (cf_GS wv_1432 wv_1306 wv_185 wv_1307) rfl rfl rfl (by decide +kernel) ⟨Nat.le_of_ble_eq_true rfl, Nat.le_of_ble_eq_true rfl⟩) preEq rfl rfl hl.1 rfl (lv_room (Nat.le_of_ble_eq_true rfl)) dFu_ones_19 ⟨Nat.le_of_ble_eq_true rfl, Nat.le_of_ble_eq_true rfl⟩) (fun r_8 hw_9 => ?_)
    subst r_8
    refine lv_iadd hx hb dFu_ones_22 ?_
    refine lv_topi (fun x_10 ex_10 => ?_)
    have h := op_ks ex_10 h
    refine lv_istore_n (lv' := [(3, .int x_10), (0, .ref h0), (1, .int v1), (2, .int v2), (4, .int v4)]) hx hb dFu_ones_23 rfl hl (by decide) rfl (fun ls hl => ?_)
    obtain ⟨x_11, ex_11⟩ : ∃ y : Int32, y = v4 + 1 := ⟨_, rfl⟩
    refine lv_iinc (v := x_11) (lv' := [(4, .int x_11), (3, .int x_10), (0, .ref h0), (1, .int v1), (2, .int v2)]) hx hb dFu_ones_24 hl (k := 4) rfl (by rw [ex_11]; rfl) (by decide) rfl (fun ls hl => ?_)
    have h := op_ks ex_11 h
    refine lv_goto (tgt := 5) hx hb dFu_ones_27 (by decide) ?_
    exact (ih) _ _ _ _ _ _ h hP hD hS (lv_sub hl [2, 3, 4, 1, 0] rfl)
set_option maxHeartbeats 4000000 in
set_option maxRecDepth 100000 in
theorem bFu_ones_0 {p : Program} {l : Launch} {e : Env} {s : State} {m : MethodId} {below : List Frame} {meth : Method} {c : Code} {A : Nat → Prop} {D : va_G} {K : Nat → ClassId} {h0 : Nat} {a0 : Nat → Nat} {AR : Array Value} (C : (dc_C p s m AR meth c cFu_ones 5 (Option.some Jvm.ClassFile.FieldType.int) yFu_ones ∧ cf_E D K A s s.heap ∧ ∀ q, s.heap.size ≤ q → A q)) {n : Nat} (ih : IhFu_ones p l e s m below meth c A D K h0 a0 AR n) (v1 : Int32) (v2 : Int32) (o0 : cf_O) (r : Int32) (h : fFu_ones_0 (gFu_ones n) v1 v2 o0 = some r) {H : Heap} {locs : List Loc} {ls : Array Slot} (hP : va_P D vwCl (wFu K h0 a0 o0) H) (hD : va_D A (wFu K h0 a0 o0)) (hS : va_S A s.heap H locs) (hl : lv_has ls 5 [(0, .ref h0), (1, .int v1), (2, .int v2)]) : W p l e ({ frames := 1, cells := 0, slots := 0, locals := 22 }) s m AR below meth c H locs 0 0 (MQ below (va_Qi (fun (x : Int32) (_ : Unit) => x = r) (fun (_ : Unit) t => cf_At D A (wFu K h0 a0 o0) t) A) AR s 0 0 A) (F0 m 0 ls []) := by
  obtain ⟨⟨hx, hb, hr, hts, hown, hlocks, hin, hml⟩, hE, hA⟩ := id C
  have hK := hE.k
  refine lv_iconst (v := 0) hx hb dFu_ones_0 (by decide) ?_
  refine lv_istore_n (lv' := [(3, .int 0), (0, .ref h0), (1, .int v1), (2, .int v2)]) hx hb dFu_ones_1 rfl hl (by decide) rfl (fun ls hl => ?_)
  refine lv_iconst (v := 0) hx hb dFu_ones_2 (by decide) ?_
  refine lv_istore (lv' := [(4, .int 0), (3, .int 0), (0, .ref h0), (1, .int v1), (2, .int v2)]) hx hb dFu_ones_3 hl (by decide) rfl (fun ls hl => ?_)
  exact (ih) _ _ _ _ _ _ h hP hD hS (lv_sub hl [2, 3, 4, 1, 0] rfl)
theorem iFu_ones {p : Program} {l : Launch} {e : Env} {s : State} {m : MethodId} {below : List Frame} {meth : Method} {c : Code} {A : Nat → Prop} {D : va_G} {K : Nat → ClassId} {h0 : Nat} {a0 : Nat → Nat} {AR : Array Value} (C : (dc_C p s m AR meth c cFu_ones 5 (Option.some Jvm.ClassFile.FieldType.int) yFu_ones ∧ cf_E D K A s s.heap ∧ ∀ q, s.heap.size ≤ q → A q)) : ∀ n, IhFu_ones p l e s m below meth c A D K h0 a0 AR n := by
  intro n
  induction n with
  | zero => exact (fun _ _ _ _ _ r h => by cases (show none = some r from h))
  | succ n ih => exact fun x0 x1 x2 x3 x4 r h _ _ _ hP hD hS hl => bFu_ones_5 C ih x0 x1 x2 x3 x4 r h hP hD hS hl
set_option maxRecDepth 100000 in
theorem mFu_ones (l : Launch) (D : va_G) (K : Nat → ClassId) (sz : Nat) (v1 : Int32) (v2 : Int32) (h0 : Nat) (a0 : Nat → Nat) (o0 : cf_O) (r : Int32) (h : fFu_ones v1 v2 o0 = some r) : Met l yFu_ones (Cond.code yFu_ones cFu_ones 5 (Option.some Jvm.ClassFile.FieldType.int) :: cfB) ({ frames := 1, cells := 0, slots := 0, locals := 22 }) (va_Pc [.ref h0, .int v1, .int v2] (cf_Pre D K sz (wFu K h0 a0 o0))) (va_Qi (fun (x : Int32) (_ : Unit) => x = r) (fun (_ : Unit) t => cf_At D (va_A (wFu K h0 a0 o0) sz) (wFu K h0 a0 o0) t) (va_A (wFu K h0 a0 o0) sz)) 0 0 (va_A (wFu K h0 a0 o0) sz) := by
  refine cf_ofW (y := yFu_ones) (As := [.ref h0, .int v1, .int v2]) (WS := wFu K h0 a0 o0) (maxL := 5) (fun A => (va_Qi (fun (x : Int32) (_ : Unit) => x = r) (fun (_ : Unit) t => cf_At D A (wFu K h0 a0 o0) t) A)) (by decide) (Nat.le_of_ble_eq_true rfl) ?_
  intro p e s m below meth c A ls En hsz hA hP hD hE hS hl
  have C : (dc_C p s m (([.ref h0, .int v1, .int v2] : List Value).toArray) meth c cFu_ones 5 (Option.some Jvm.ClassFile.FieldType.int) yFu_ones ∧ cf_E D K A s s.heap ∧ ∀ q, s.heap.size ≤ q → A q) := ⟨En, hE, hA⟩
  exact bFu_ones_0 C (iFu_ones C cfFU) v1 v2 o0 r h hP hD hS hl
def IhFu_firstAsked (p : Program) (l : Launch) (e : Env) (s : State) (m : MethodId) (below : List Frame) (meth : Method) (c : Code) (A : Nat → Prop) (D : va_G) (K : Nat → ClassId) (h0 : Nat) (a0 : Nat → Nat) (AR : Array Value) (n : Nat) : Prop := (∀ (v1 : Int32) (v2 : Int32) (v3 : Int32) (o0 : cf_O) (r : Int32), gFu_firstAsked n 0 v1 v2 v3 0 o0 = some r → ∀ {H : Heap} {locs : List Loc} {ls : Array Slot}, (va_P D vwCl (wFu K h0 a0 o0) H) → (va_D A (wFu K h0 a0 o0)) → va_S A s.heap H locs → lv_has ls 5 [(0, .ref h0), (1, .int v1), (2, .int v2), (3, .int v3)] → W p l e ({ frames := 2, cells := 0, slots := 0, locals := 44 }) s m AR below meth c H locs 0 0 (MQ below (va_Qi (fun (x : Int32) (_ : Unit) => x = r) (fun (_ : Unit) t => cf_At D A (wFu K h0 a0 o0) t) A) AR s 0 0 A) (F0 m 2 ls [])) ∧ (∀ (v1 : Int32) (v2 : Int32) (v3 : Int32) (v4 : Int32) (o0 : cf_O) (r : Int32), gFu_firstAsked n 1 v1 v2 v3 v4 o0 = some r → ∀ {H : Heap} {locs : List Loc} {ls : Array Slot}, (va_P D vwCl (wFu K h0 a0 o0) H) → (va_D A (wFu K h0 a0 o0)) → va_S A s.heap H locs → lv_has ls 5 [(0, .ref h0), (1, .int v1), (2, .int v2), (3, .int v3), (4, .int v4)] → W p l e ({ frames := 2, cells := 0, slots := 0, locals := 44 }) s m AR below meth c H locs 0 0 (MQ below (va_Qi (fun (x : Int32) (_ : Unit) => x = r) (fun (_ : Unit) t => cf_At D A (wFu K h0 a0 o0) t) A) AR s 0 0 A) (F0 m 10 ls []))
set_option maxHeartbeats 4000000 in
set_option maxRecDepth 100000 in
theorem bFu_firstAsked_10 {p : Program} {l : Launch} {e : Env} {s : State} {m : MethodId} {below : List Frame} {meth : Method} {c : Code} {A : Nat → Prop} {D : va_G} {K : Nat → ClassId} {h0 : Nat} {a0 : Nat → Nat} {AR : Array Value} (C : (dc_C p s m AR meth c cFu_firstAsked 5 (Option.some Jvm.ClassFile.FieldType.int) yFu_firstAsked ∧ cf_E D K A s s.heap ∧ ∀ q, s.heap.size ≤ q → A q)) {n : Nat} (ih : IhFu_firstAsked p l e s m below meth c A D K h0 a0 AR n) (v1 : Int32) (v2 : Int32) (v3 : Int32) (v4 : Int32) (o0 : cf_O) (r : Int32) (h : fFu_firstAsked_10 (gFu_firstAsked n) v1 v2 v3 v4 o0 = some r) {H : Heap} {locs : List Loc} {ls : Array Slot} (hP : va_P D vwCl (wFu K h0 a0 o0) H) (hD : va_D A (wFu K h0 a0 o0)) (hS : va_S A s.heap H locs) (hl : lv_has ls 5 [(0, .ref h0), (1, .int v1), (2, .int v2), (3, .int v3), (4, .int v4)]) : W p l e ({ frames := 2, cells := 0, slots := 0, locals := 44 }) s m AR below meth c H locs 0 0 (MQ below (va_Qi (fun (x : Int32) (_ : Unit) => x = r) (fun (_ : Unit) t => cf_At D A (wFu K h0 a0 o0) t) A) AR s 0 0 A) (F0 m 10 ls []) := by
  obtain ⟨⟨hx, hb, hr, hts, hown, hlocks, hin, hml⟩, hE, hA⟩ := id C
  have hK := hE.k
  refine lv_iload hx hb dFu_firstAsked_10 (lv_at hl 4 rfl) ?_
  refine lv_iconst (v := 1) hx hb dFu_firstAsked_12 (by decide) ?_
  refine lv_iload_n hx hb dFu_firstAsked_13 rfl (lv_at hl 2 rfl) ?_
  refine lv_ishl hx hb dFu_firstAsked_14 ?_
  refine lv_topi (fun x_1 ex_1 => ?_)
  have h := op_ks ex_1 h
  refine lv_icmp_ge (tgt := 47) hx hb dFu_firstAsked_15 (by decide) (fun c_2 => ?_) (fun c_2 => ?_)
  · have h := op_t c_2 h
    obtain ⟨x_3, ex_3⟩ : ∃ y : Int32, y = v3 + 1 := ⟨_, rfl⟩
    refine lv_iinc (v := x_3) (lv' := [(3, .int x_3), (0, .ref h0), (1, .int v1), (2, .int v2), (4, .int v4)]) hx hb dFu_firstAsked_47 hl (k := 3) rfl (by rw [ex_3]; rfl) (by decide) rfl (fun ls hl => ?_)
    have h := op_ks ex_3 h
    refine lv_goto (tgt := 2) hx hb dFu_firstAsked_50 (by decide) ?_
    exact (ih.1) _ _ _ _ _ h hP hD hS (lv_sub hl [1, 2, 3, 0] rfl)
  · have h := op_f c_2 h
    refine lv_aload_n hx hb dFu_firstAsked_18 rfl (lv_at hl 0 rfl) ?_
    refine lv_iload_n hx hb dFu_firstAsked_19 rfl (lv_at hl 1 rfl) ?_
    refine lv_iload hx hb dFu_firstAsked_20 (lv_at hl 4 rfl) ?_
    obtain ⟨q_4, hq_4, h⟩ := op_b h
    refine dc_calli (va_runV (As := [.int v1, .int v4]) (rest := []) ⟨hx, hb, hml, hown, hts⟩ (mFu_bit l D K _ v1 v4 h0 a0 o0 _ hq_4) (cwV 2 hts (cf_GV wv_1419 wv_1178 wv_1179 wv_159 wv_1180) rfl rfl rfl (by decide +kernel) ⟨Nat.le_of_ble_eq_true rfl, Nat.le_of_ble_eq_true rfl⟩) (dc_preV hE hP hD hS hA rfl 0 rfl) rfl rfl hl.1 rfl (lv_room (Nat.le_of_ble_eq_true rfl)) dFu_firstAsked_22 ⟨Nat.le_of_ble_eq_true rfl, Nat.le_of_ble_eq_true rfl⟩) hP hD hS hA (fun r_5 H locs hw_6 hP hD hS => ?_)
    subst r_5
    refine lv_aload_n hx hb dFu_firstAsked_25 rfl (lv_at hl 0 rfl) ?_
    refine lv_iload_n hx hb dFu_firstAsked_26 rfl (lv_at hl 1 rfl) ?_
    refine lv_iload hx hb dFu_firstAsked_27 (lv_at hl 4 rfl) ?_
    refine lv_iconst (v := 1) hx hb dFu_firstAsked_29 (by decide) ?_
    refine lv_iload_n hx hb dFu_firstAsked_30 rfl (lv_at hl 3 rfl) ?_
    refine lv_ishl hx hb dFu_firstAsked_31 ?_
    refine lv_topi (fun x_7 ex_7 => ?_)
    have h := op_ks ex_7 h
    refine lv_ixor hx hb dFu_firstAsked_32 ?_
    refine lv_topi (fun x_8 ex_8 => ?_)
    have h := op_ks ex_8 h
    obtain ⟨q_9, hq_9, h⟩ := op_b h
    refine dc_calli (va_runV (As := [.int v1, .int x_8]) (rest := [.int q_4]) ⟨hx, hb, hml, hown, hts⟩ (mFu_bit l D K _ v1 x_8 h0 a0 o0 _ hq_9) (cwV 2 hts (cf_GV wv_1419 wv_1178 wv_1179 wv_159 wv_1180) rfl rfl rfl (by decide +kernel) ⟨Nat.le_of_ble_eq_true rfl, Nat.le_of_ble_eq_true rfl⟩) (dc_preV hE hP hD hS hA rfl 0 rfl) rfl rfl hl.1 rfl (lv_room (Nat.le_of_ble_eq_true rfl)) dFu_firstAsked_33 ⟨Nat.le_of_ble_eq_true rfl, Nat.le_of_ble_eq_true rfl⟩) hP hD hS hA (fun r_10 H locs hw_11 hP hD hS => ?_)
    subst r_10
    refine lv_icmp_eq (tgt := 41) hx hb dFu_firstAsked_36 (by decide) (fun c_12 => ?_) (fun c_12 => ?_)
    · have h := op_t c_12 h
      obtain ⟨x_13, ex_13⟩ : ∃ y : Int32, y = v4 + 1 := ⟨_, rfl⟩
      refine lv_iinc (v := x_13) (lv' := [(4, .int x_13), (0, .ref h0), (1, .int v1), (2, .int v2), (3, .int v3)]) hx hb dFu_firstAsked_41 hl (k := 4) rfl (by rw [ex_13]; rfl) (by decide) rfl (fun ls hl => ?_)
      have h := op_ks ex_13 h
      refine lv_goto (tgt := 10) hx hb dFu_firstAsked_44 (by decide) ?_
      exact (ih.2) _ _ _ _ _ _ h hP hD hS (lv_sub hl [1, 2, 3, 4, 0] rfl)
    · have h := op_f c_12 h
      refine lv_iload_n hx hb dFu_firstAsked_39 rfl (lv_at hl 3 rfl) ?_
      obtain rfl := Option.some.inj h
      exact dc_iret hx hb hr hlocks rfl hP hD hS dFu_firstAsked_40
set_option maxHeartbeats 4000000 in
set_option maxRecDepth 100000 in
theorem bFu_firstAsked_2 {p : Program} {l : Launch} {e : Env} {s : State} {m : MethodId} {below : List Frame} {meth : Method} {c : Code} {A : Nat → Prop} {D : va_G} {K : Nat → ClassId} {h0 : Nat} {a0 : Nat → Nat} {AR : Array Value} (C : (dc_C p s m AR meth c cFu_firstAsked 5 (Option.some Jvm.ClassFile.FieldType.int) yFu_firstAsked ∧ cf_E D K A s s.heap ∧ ∀ q, s.heap.size ≤ q → A q)) {n : Nat} (ih : IhFu_firstAsked p l e s m below meth c A D K h0 a0 AR n) (v1 : Int32) (v2 : Int32) (v3 : Int32) (o0 : cf_O) (r : Int32) (h : fFu_firstAsked_2 (gFu_firstAsked n) v1 v2 v3 o0 = some r) {H : Heap} {locs : List Loc} {ls : Array Slot} (hP : va_P D vwCl (wFu K h0 a0 o0) H) (hD : va_D A (wFu K h0 a0 o0)) (hS : va_S A s.heap H locs) (hl : lv_has ls 5 [(0, .ref h0), (1, .int v1), (2, .int v2), (3, .int v3)]) : W p l e ({ frames := 2, cells := 0, slots := 0, locals := 44 }) s m AR below meth c H locs 0 0 (MQ below (va_Qi (fun (x : Int32) (_ : Unit) => x = r) (fun (_ : Unit) t => cf_At D A (wFu K h0 a0 o0) t) A) AR s 0 0 A) (F0 m 2 ls []) := by
  obtain ⟨⟨hx, hb, hr, hts, hown, hlocks, hin, hml⟩, hE, hA⟩ := id C
  have hK := hE.k
  refine lv_iload_n hx hb dFu_firstAsked_2 rfl (lv_at hl 3 rfl) ?_
  refine lv_iload_n hx hb dFu_firstAsked_3 rfl (lv_at hl 2 rfl) ?_
  refine lv_icmp_ge (tgt := 53) hx hb dFu_firstAsked_4 (by decide) (fun c_1 => ?_) (fun c_1 => ?_)
  · have h := op_t c_1 h
    refine lv_iconst (v := (-1)) hx hb dFu_firstAsked_53 (by decide) ?_
    obtain rfl := Option.some.inj h
    exact dc_iret hx hb hr hlocks rfl hP hD hS dFu_firstAsked_54
  · have h := op_f c_1 h
    refine lv_iconst (v := 0) hx hb dFu_firstAsked_7 (by decide) ?_
    refine lv_istore (lv' := [(4, .int 0), (0, .ref h0), (1, .int v1), (2, .int v2), (3, .int v3)]) hx hb dFu_firstAsked_8 hl (by decide) rfl (fun ls hl => ?_)
    exact (ih.2) _ _ _ _ _ _ h hP hD hS (lv_sub hl [1, 2, 3, 4, 0] rfl)
set_option maxHeartbeats 4000000 in
set_option maxRecDepth 100000 in
theorem bFu_firstAsked_0 {p : Program} {l : Launch} {e : Env} {s : State} {m : MethodId} {below : List Frame} {meth : Method} {c : Code} {A : Nat → Prop} {D : va_G} {K : Nat → ClassId} {h0 : Nat} {a0 : Nat → Nat} {AR : Array Value} (C : (dc_C p s m AR meth c cFu_firstAsked 5 (Option.some Jvm.ClassFile.FieldType.int) yFu_firstAsked ∧ cf_E D K A s s.heap ∧ ∀ q, s.heap.size ≤ q → A q)) {n : Nat} (ih : IhFu_firstAsked p l e s m below meth c A D K h0 a0 AR n) (v1 : Int32) (v2 : Int32) (o0 : cf_O) (r : Int32) (h : fFu_firstAsked_0 (gFu_firstAsked n) v1 v2 o0 = some r) {H : Heap} {locs : List Loc} {ls : Array Slot} (hP : va_P D vwCl (wFu K h0 a0 o0) H) (hD : va_D A (wFu K h0 a0 o0)) (hS : va_S A s.heap H locs) (hl : lv_has ls 5 [(0, .ref h0), (1, .int v1), (2, .int v2)]) : W p l e ({ frames := 2, cells := 0, slots := 0, locals := 44 }) s m AR below meth c H locs 0 0 (MQ below (va_Qi (fun (x : Int32) (_ : Unit) => x = r) (fun (_ : Unit) t => cf_At D A (wFu K h0 a0 o0) t) A) AR s 0 0 A) (F0 m 0 ls []) := by
  obtain ⟨⟨hx, hb, hr, hts, hown, hlocks, hin, hml⟩, hE, hA⟩ := id C
  have hK := hE.k
  refine lv_iconst (v := 0) hx hb dFu_firstAsked_0 (by decide) ?_
  refine lv_istore_n (lv' := [(3, .int 0), (0, .ref h0), (1, .int v1), (2, .int v2)]) hx hb dFu_firstAsked_1 rfl hl (by decide) rfl (fun ls hl => ?_)
  exact (ih.1) _ _ _ _ _ h hP hD hS (lv_sub hl [1, 2, 3, 0] rfl)
theorem iFu_firstAsked {p : Program} {l : Launch} {e : Env} {s : State} {m : MethodId} {below : List Frame} {meth : Method} {c : Code} {A : Nat → Prop} {D : va_G} {K : Nat → ClassId} {h0 : Nat} {a0 : Nat → Nat} {AR : Array Value} (C : (dc_C p s m AR meth c cFu_firstAsked 5 (Option.some Jvm.ClassFile.FieldType.int) yFu_firstAsked ∧ cf_E D K A s s.heap ∧ ∀ q, s.heap.size ≤ q → A q)) : ∀ n, IhFu_firstAsked p l e s m below meth c A D K h0 a0 AR n := by
  intro n
  induction n with
  | zero => exact ⟨(fun _ _ _ _ r h => by cases (show none = some r from h)), (fun _ _ _ _ _ r h => by cases (show none = some r from h))⟩
  | succ n ih => exact ⟨fun x0 x1 x2 x3 r h _ _ _ hP hD hS hl => bFu_firstAsked_2 C ih x0 x1 x2 x3 r h hP hD hS hl, fun x0 x1 x2 x3 x4 r h _ _ _ hP hD hS hl => bFu_firstAsked_10 C ih x0 x1 x2 x3 x4 r h hP hD hS hl⟩
set_option maxRecDepth 100000 in
theorem mFu_firstAsked (l : Launch) (D : va_G) (K : Nat → ClassId) (sz : Nat) (v1 : Int32) (v2 : Int32) (h0 : Nat) (a0 : Nat → Nat) (o0 : cf_O) (r : Int32) (h : fFu_firstAsked v1 v2 o0 = some r) : Met l yFu_firstAsked (Cond.code yFu_firstAsked cFu_firstAsked 5 (Option.some Jvm.ClassFile.FieldType.int) :: cfB) ({ frames := 2, cells := 0, slots := 0, locals := 44 }) (va_Pc [.ref h0, .int v1, .int v2] (cf_Pre D K sz (wFu K h0 a0 o0))) (va_Qi (fun (x : Int32) (_ : Unit) => x = r) (fun (_ : Unit) t => cf_At D (va_A (wFu K h0 a0 o0) sz) (wFu K h0 a0 o0) t) (va_A (wFu K h0 a0 o0) sz)) 0 0 (va_A (wFu K h0 a0 o0) sz) := by
  refine cf_ofW (y := yFu_firstAsked) (As := [.ref h0, .int v1, .int v2]) (WS := wFu K h0 a0 o0) (maxL := 5) (fun A => (va_Qi (fun (x : Int32) (_ : Unit) => x = r) (fun (_ : Unit) t => cf_At D A (wFu K h0 a0 o0) t) A)) (by decide) (Nat.le_of_ble_eq_true rfl) ?_
  intro p e s m below meth c A ls En hsz hA hP hD hE hS hl
  have C : (dc_C p s m (([.ref h0, .int v1, .int v2] : List Value).toArray) meth c cFu_firstAsked 5 (Option.some Jvm.ClassFile.FieldType.int) yFu_firstAsked ∧ cf_E D K A s s.heap ∧ ∀ q, s.heap.size ≤ q → A q) := ⟨En, hE, hA⟩
  exact bFu_firstAsked_0 C (iFu_firstAsked C cfFU) v1 v2 o0 r h hP hD hS hl
def IhFu_questionOf (p : Program) (l : Launch) (e : Env) (s : State) (m : MethodId) (below : List Frame) (meth : Method) (c : Code) (A : Nat → Prop) (D : va_G) (K : Nat → ClassId) (h0 : Nat) (a0 : Nat → Nat) (AR : Array Value) (n : Nat) : Prop := (∀ (v1 : Int32) (v2 : Int32) (v3 : Int32) (v4 : Int32) (o0 : cf_O) (r : Int32), gFu_questionOf n 0 v1 v2 v3 v4 o0 = some r → ∀ {H : Heap} {locs : List Loc} {ls : Array Slot}, (va_P D vwCl (wFu K h0 a0 o0) H) → (va_D A (wFu K h0 a0 o0)) → va_S A s.heap H locs → lv_has ls 5 [(0, .ref h0), (1, .int v1), (2, .int v2), (3, .int v3), (4, .int v4)] → W p l e ({ frames := 0, cells := 0, slots := 0, locals := 0 }) s m AR below meth c H locs 0 0 (MQ below (va_Qi (fun (x : Int32) (_ : Unit) => x = r) (fun (_ : Unit) t => cf_At D A (wFu K h0 a0 o0) t) A) AR s 0 0 A) (F0 m 3 ls []))
set_option maxHeartbeats 4000000 in
set_option maxRecDepth 100000 in
theorem bFu_questionOf_34 {p : Program} {l : Launch} {e : Env} {s : State} {m : MethodId} {below : List Frame} {meth : Method} {c : Code} {A : Nat → Prop} {D : va_G} {K : Nat → ClassId} {h0 : Nat} {a0 : Nat → Nat} {AR : Array Value} (C : (dc_C p s m AR meth c cFu_questionOf 5 (Option.some Jvm.ClassFile.FieldType.int) yFu_questionOf ∧ cf_E D K A s s.heap ∧ ∀ q, s.heap.size ≤ q → A q)) {n : Nat} (ih : IhFu_questionOf p l e s m below meth c A D K h0 a0 AR n) (v1 : Int32) (v2 : Int32) (v3 : Int32) (v4 : Int32) (o0 : cf_O) (r : Int32) (h : fFu_questionOf_34 (gFu_questionOf n) v1 v2 v3 v4 o0 = some r) {H : Heap} {locs : List Loc} {ls : Array Slot} (hP : va_P D vwCl (wFu K h0 a0 o0) H) (hD : va_D A (wFu K h0 a0 o0)) (hS : va_S A s.heap H locs) (hl : lv_has ls 5 [(0, .ref h0), (1, .int v1), (2, .int v2), (3, .int v3), (4, .int v4)]) : W p l e ({ frames := 0, cells := 0, slots := 0, locals := 0 }) s m AR below meth c H locs 0 0 (MQ below (va_Qi (fun (x : Int32) (_ : Unit) => x = r) (fun (_ : Unit) t => cf_At D A (wFu K h0 a0 o0) t) A) AR s 0 0 A) (F0 m 34 ls []) := by
  obtain ⟨⟨hx, hb, hr, hts, hown, hlocks, hin, hml⟩, hE, hA⟩ := id C
  have hK := hE.k
  obtain ⟨x_1, ex_1⟩ : ∃ y : Int32, y = v4 + 1 := ⟨_, rfl⟩
  refine lv_iinc (v := x_1) (lv' := [(4, .int x_1), (0, .ref h0), (1, .int v1), (2, .int v2), (3, .int v3)]) hx hb dFu_questionOf_34 hl (k := 4) rfl (by rw [ex_1]; rfl) (by decide) rfl (fun ls hl => ?_)
  have h := op_ks ex_1 h
  refine lv_goto (tgt := 3) hx hb dFu_questionOf_37 (by decide) ?_
  exact (ih) _ _ _ _ _ _ h hP hD hS (lv_sub hl [1, 2, 3, 4, 0] rfl)
set_option maxHeartbeats 4000000 in
set_option maxRecDepth 100000 in
theorem bFu_questionOf_3 {p : Program} {l : Launch} {e : Env} {s : State} {m : MethodId} {below : List Frame} {meth : Method} {c : Code} {A : Nat → Prop} {D : va_G} {K : Nat → ClassId} {h0 : Nat} {a0 : Nat → Nat} {AR : Array Value} (C : (dc_C p s m AR meth c cFu_questionOf 5 (Option.some Jvm.ClassFile.FieldType.int) yFu_questionOf ∧ cf_E D K A s s.heap ∧ ∀ q, s.heap.size ≤ q → A q)) {n : Nat} (ih : IhFu_questionOf p l e s m below meth c A D K h0 a0 AR n) (v1 : Int32) (v2 : Int32) (v3 : Int32) (v4 : Int32) (o0 : cf_O) (r : Int32) (h : fFu_questionOf_3 (gFu_questionOf n) v1 v2 v3 v4 o0 = some r) {H : Heap} {locs : List Loc} {ls : Array Slot} (hP : va_P D vwCl (wFu K h0 a0 o0) H) (hD : va_D A (wFu K h0 a0 o0)) (hS : va_S A s.heap H locs) (hl : lv_has ls 5 [(0, .ref h0), (1, .int v1), (2, .int v2), (3, .int v3), (4, .int v4)]) : W p l e ({ frames := 0, cells := 0, slots := 0, locals := 0 }) s m AR below meth c H locs 0 0 (MQ below (va_Qi (fun (x : Int32) (_ : Unit) => x = r) (fun (_ : Unit) t => cf_At D A (wFu K h0 a0 o0) t) A) AR s 0 0 A) (F0 m 3 ls []) := by
  obtain ⟨⟨hx, hb, hr, hts, hown, hlocks, hin, hml⟩, hE, hA⟩ := id C
  have hK := hE.k
  refine lv_iload hx hb dFu_questionOf_3 (lv_at hl 4 rfl) ?_
  refine lv_iload_n hx hb dFu_questionOf_5 rfl (lv_at hl 3 rfl) ?_
  refine lv_icmp_ge (tgt := 40) hx hb dFu_questionOf_6 (by decide) (fun c_1 => ?_) (fun c_1 => ?_)
  · have h := op_t c_1 h
    refine lv_iload_n hx hb dFu_questionOf_40 rfl (lv_at hl 3 rfl) ?_
    obtain rfl := Option.some.inj h
    exact dc_iret hx hb hr hlocks rfl hP hD hS dFu_questionOf_41
  · have h := op_f c_1 h
    refine lv_aload_n hx hb dFu_questionOf_9 rfl (lv_at hl 0 rfl) ?_
    refine va_get (D := D) (ci := 4) (v := .ref (a0 3)) (C := RFu) (T := TFu) (N := 5) hx hb hts inFu hown hK hP 0 rfl rfl 3 (by decide) (hts _ wv_244) (fun _ h9 => h9) rfl dFu_questionOf_10 ?_
    refine lv_iload hx hb dFu_questionOf_13 (lv_at hl 4 rfl) ?_
    obtain ⟨hi_2, h⟩ := op_n h
    refine va_iald (D := D) hx hb hK hP 3 0 rfl rfl hi_2 dFu_questionOf_15 ?_
    refine lv_topi (fun x_3 ex_3 => ?_)
    have h := op_ks ex_3 h
    refine lv_iload_n hx hb dFu_questionOf_16 rfl (lv_at hl 1 rfl) ?_
    refine lv_icmp_ne (tgt := 34) hx hb dFu_questionOf_17 (by decide) (fun c_4 => ?_) (fun c_4 => ?_)
    · have h := op_f c_4 h
      exact bFu_questionOf_34 C ih _ _ _ _ _ _ h hP hD hS (lv_sub hl [0, 1, 2, 3, 4] rfl)
    · have h := op_t c_4 h
      refine lv_aload_n hx hb dFu_questionOf_20 rfl (lv_at hl 0 rfl) ?_
      refine va_get (D := D) (ci := 4) (v := .ref (a0 4)) (C := RFu) (T := TFu) (N := 5) hx hb hts inFu hown hK hP 0 rfl rfl 4 (by decide) (hts _ wv_245) (fun _ h9 => h9) rfl dFu_questionOf_21 ?_
      refine lv_iload hx hb dFu_questionOf_24 (lv_at hl 4 rfl) ?_
      obtain ⟨hi_5, h⟩ := op_n h
      refine va_iald (D := D) hx hb hK hP 4 0 rfl rfl hi_5 dFu_questionOf_26 ?_
      refine lv_topi (fun x_6 ex_6 => ?_)
      have h := op_ks ex_6 h
      refine lv_iload_n hx hb dFu_questionOf_27 rfl (lv_at hl 2 rfl) ?_
      refine lv_icmp_ne (tgt := 34) hx hb dFu_questionOf_28 (by decide) (fun c_7 => ?_) (fun c_7 => ?_)
      · have h := op_f c_7 h
        exact bFu_questionOf_34 C ih _ _ _ _ _ _ h hP hD hS (lv_sub hl [0, 1, 2, 3, 4] rfl)
      · have h := op_t c_7 h
        refine lv_iload hx hb dFu_questionOf_31 (lv_at hl 4 rfl) ?_
        obtain rfl := Option.some.inj h
        exact dc_iret hx hb hr hlocks rfl hP hD hS dFu_questionOf_33
set_option maxHeartbeats 4000000 in
set_option maxRecDepth 100000 in
theorem bFu_questionOf_0 {p : Program} {l : Launch} {e : Env} {s : State} {m : MethodId} {below : List Frame} {meth : Method} {c : Code} {A : Nat → Prop} {D : va_G} {K : Nat → ClassId} {h0 : Nat} {a0 : Nat → Nat} {AR : Array Value} (C : (dc_C p s m AR meth c cFu_questionOf 5 (Option.some Jvm.ClassFile.FieldType.int) yFu_questionOf ∧ cf_E D K A s s.heap ∧ ∀ q, s.heap.size ≤ q → A q)) {n : Nat} (ih : IhFu_questionOf p l e s m below meth c A D K h0 a0 AR n) (v1 : Int32) (v2 : Int32) (v3 : Int32) (o0 : cf_O) (r : Int32) (h : fFu_questionOf_0 (gFu_questionOf n) v1 v2 v3 o0 = some r) {H : Heap} {locs : List Loc} {ls : Array Slot} (hP : va_P D vwCl (wFu K h0 a0 o0) H) (hD : va_D A (wFu K h0 a0 o0)) (hS : va_S A s.heap H locs) (hl : lv_has ls 5 [(0, .ref h0), (1, .int v1), (2, .int v2), (3, .int v3)]) : W p l e ({ frames := 0, cells := 0, slots := 0, locals := 0 }) s m AR below meth c H locs 0 0 (MQ below (va_Qi (fun (x : Int32) (_ : Unit) => x = r) (fun (_ : Unit) t => cf_At D A (wFu K h0 a0 o0) t) A) AR s 0 0 A) (F0 m 0 ls []) := by
  obtain ⟨⟨hx, hb, hr, hts, hown, hlocks, hin, hml⟩, hE, hA⟩ := id C
  have hK := hE.k
  refine lv_iconst (v := 0) hx hb dFu_questionOf_0 (by decide) ?_
  refine lv_istore (lv' := [(4, .int 0), (0, .ref h0), (1, .int v1), (2, .int v2), (3, .int v3)]) hx hb dFu_questionOf_1 hl (by decide) rfl (fun ls hl => ?_)
  exact (ih) _ _ _ _ _ _ h hP hD hS (lv_sub hl [1, 2, 3, 4, 0] rfl)
theorem iFu_questionOf {p : Program} {l : Launch} {e : Env} {s : State} {m : MethodId} {below : List Frame} {meth : Method} {c : Code} {A : Nat → Prop} {D : va_G} {K : Nat → ClassId} {h0 : Nat} {a0 : Nat → Nat} {AR : Array Value} (C : (dc_C p s m AR meth c cFu_questionOf 5 (Option.some Jvm.ClassFile.FieldType.int) yFu_questionOf ∧ cf_E D K A s s.heap ∧ ∀ q, s.heap.size ≤ q → A q)) : ∀ n, IhFu_questionOf p l e s m below meth c A D K h0 a0 AR n := by
  intro n
  induction n with
  | zero => exact (fun _ _ _ _ _ r h => by cases (show none = some r from h))
  | succ n ih => exact fun x0 x1 x2 x3 x4 r h _ _ _ hP hD hS hl => bFu_questionOf_3 C ih x0 x1 x2 x3 x4 r h hP hD hS hl
set_option maxRecDepth 100000 in
theorem mFu_questionOf (l : Launch) (D : va_G) (K : Nat → ClassId) (sz : Nat) (v1 : Int32) (v2 : Int32) (v3 : Int32) (h0 : Nat) (a0 : Nat → Nat) (o0 : cf_O) (r : Int32) (h : fFu_questionOf v1 v2 v3 o0 = some r) : Met l yFu_questionOf (Cond.code yFu_questionOf cFu_questionOf 5 (Option.some Jvm.ClassFile.FieldType.int) :: cfB) ({ frames := 0, cells := 0, slots := 0, locals := 0 }) (va_Pc [.ref h0, .int v1, .int v2, .int v3] (cf_Pre D K sz (wFu K h0 a0 o0))) (va_Qi (fun (x : Int32) (_ : Unit) => x = r) (fun (_ : Unit) t => cf_At D (va_A (wFu K h0 a0 o0) sz) (wFu K h0 a0 o0) t) (va_A (wFu K h0 a0 o0) sz)) 0 0 (va_A (wFu K h0 a0 o0) sz) := by
  refine cf_ofW (y := yFu_questionOf) (As := [.ref h0, .int v1, .int v2, .int v3]) (WS := wFu K h0 a0 o0) (maxL := 5) (fun A => (va_Qi (fun (x : Int32) (_ : Unit) => x = r) (fun (_ : Unit) t => cf_At D A (wFu K h0 a0 o0) t) A)) (by decide) (Nat.le_of_ble_eq_true rfl) ?_
  intro p e s m below meth c A ls En hsz hA hP hD hE hS hl
  have C : (dc_C p s m (([.ref h0, .int v1, .int v2, .int v3] : List Value).toArray) meth c cFu_questionOf 5 (Option.some Jvm.ClassFile.FieldType.int) yFu_questionOf ∧ cf_E D K A s s.heap ∧ ∀ q, s.heap.size ≤ q → A q) := ⟨En, hE, hA⟩
  exact bFu_questionOf_0 C (iFu_questionOf C cfFU) v1 v2 v3 o0 r h hP hD hS hl
def IhFu_askInput (p : Program) (l : Launch) (e : Env) (s : State) (m : MethodId) (below : List Frame) (meth : Method) (c : Code) (A : Nat → Prop) (D : va_G) (K : Nat → ClassId) (h0 : Nat) (a0 : Nat → Nat) (AR : Array Value) (n : Nat) : Prop := (∀ (v1 : Int32) (v2 : Int32) (v3 : Int32) (v4 : Int32) (o0 : cf_O) (r : Int32 × cf_O), gFu_askInput n 0 v1 v2 v3 v4 o0 = some r → ∀ {H : Heap} {locs : List Loc} {ls : Array Slot}, (va_P D vwCl (wFu K h0 a0 o0) H) → (va_D A (wFu K h0 a0 o0)) → va_S A s.heap H locs → lv_has ls 8 [(0, .ref h0), (1, .int v1), (2, .int v2), (3, .int v3), (4, .int v4)] → W p l e ({ frames := 1, cells := 0, slots := 0, locals := 24 }) s m AR below meth c H locs 0 0 (MQ below (va_Qi (fun (x : Int32) (_ : Unit) => x = r.1) (fun (_ : Unit) t => cf_At D A (wFu K h0 a0 r.2) t) A) AR s 0 0 A) (F0 m 5 ls []))
set_option maxHeartbeats 4000000 in
set_option maxRecDepth 100000 in
theorem bFu_askInput_92 {p : Program} {l : Launch} {e : Env} {s : State} {m : MethodId} {below : List Frame} {meth : Method} {c : Code} {A : Nat → Prop} {D : va_G} {K : Nat → ClassId} {h0 : Nat} {a0 : Nat → Nat} {AR : Array Value} (C : (dc_C p s m AR meth c cFu_askInput 8 (Option.some Jvm.ClassFile.FieldType.int) yFu_askInput ∧ cf_E D K A s s.heap ∧ ∀ q, s.heap.size ≤ q → A q)) {n : Nat} (ih : IhFu_askInput p l e s m below meth c A D K h0 a0 AR n) (v1 : Int32) (v2 : Int32) (v3 : Int32) (v4 : Int32) (o0 : cf_O) (r : Int32 × cf_O) (h : fFu_askInput_92 (gFu_askInput n) v1 v2 v3 v4 o0 = some r) {H : Heap} {locs : List Loc} {ls : Array Slot} (hP : va_P D vwCl (wFu K h0 a0 o0) H) (hD : va_D A (wFu K h0 a0 o0)) (hS : va_S A s.heap H locs) (hl : lv_has ls 8 [(0, .ref h0), (1, .int v1), (2, .int v2), (3, .int v3), (4, .int v4)]) : W p l e ({ frames := 1, cells := 0, slots := 0, locals := 24 }) s m AR below meth c H locs 0 0 (MQ below (va_Qi (fun (x : Int32) (_ : Unit) => x = r.1) (fun (_ : Unit) t => cf_At D A (wFu K h0 a0 r.2) t) A) AR s 0 0 A) (F0 m 92 ls []) := by
  obtain ⟨⟨hx, hb, hr, hts, hown, hlocks, hin, hml⟩, hE, hA⟩ := id C
  have hK := hE.k
  obtain ⟨x_1, ex_1⟩ : ∃ y : Int32, y = v4 + 1 := ⟨_, rfl⟩
  refine lv_iinc (v := x_1) (lv' := [(4, .int x_1), (0, .ref h0), (1, .int v1), (2, .int v2), (3, .int v3)]) hx hb dFu_askInput_92 hl (k := 4) rfl (by rw [ex_1]; rfl) (by decide) rfl (fun ls hl => ?_)
  have h := op_ks ex_1 h
  refine lv_goto (tgt := 5) hx hb dFu_askInput_95 (by decide) ?_
  exact (ih) _ _ _ _ _ _ h hP hD hS (lv_sub hl [1, 2, 3, 4, 0] rfl)
set_option maxHeartbeats 4000000 in
set_option maxRecDepth 100000 in
theorem bFu_askInput_81 {p : Program} {l : Launch} {e : Env} {s : State} {m : MethodId} {below : List Frame} {meth : Method} {c : Code} {A : Nat → Prop} {D : va_G} {K : Nat → ClassId} {h0 : Nat} {a0 : Nat → Nat} {AR : Array Value} (C : (dc_C p s m AR meth c cFu_askInput 8 (Option.some Jvm.ClassFile.FieldType.int) yFu_askInput ∧ cf_E D K A s s.heap ∧ ∀ q, s.heap.size ≤ q → A q)) {n : Nat} (ih : IhFu_askInput p l e s m below meth c A D K h0 a0 AR n) (v1 : Int32) (v2 : Int32) (v3 : Int32) (v4 : Int32) (v7 : Int32) (o0 : cf_O) (r : Int32 × cf_O) (h : fFu_askInput_81 (gFu_askInput n) v1 v2 v3 v4 v7 o0 = some r) {H : Heap} {locs : List Loc} {ls : Array Slot} (hP : va_P D vwCl (wFu K h0 a0 o0) H) (hD : va_D A (wFu K h0 a0 o0)) (hS : va_S A s.heap H locs) (hl : lv_has ls 8 [(0, .ref h0), (1, .int v1), (2, .int v2), (3, .int v3), (4, .int v4), (7, .int v7)]) : W p l e ({ frames := 1, cells := 0, slots := 0, locals := 24 }) s m AR below meth c H locs 0 0 (MQ below (va_Qi (fun (x : Int32) (_ : Unit) => x = r.1) (fun (_ : Unit) t => cf_At D A (wFu K h0 a0 r.2) t) A) AR s 0 0 A) (F0 m 81 ls []) := by
  obtain ⟨⟨hx, hb, hr, hts, hown, hlocks, hin, hml⟩, hE, hA⟩ := id C
  have hK := hE.k
  refine lv_aload_n hx hb dFu_askInput_81 rfl (lv_at hl 0 rfl) ?_
  refine va_get (D := D) (ci := 4) (v := .ref (a0 2)) (C := RFu) (T := TFu) (N := 5) hx hb hts inFu hown hK hP 0 rfl rfl 2 (by decide) (hts _ wv_243) (fun _ h9 => h9) rfl dFu_askInput_82 ?_
  refine lv_iload hx hb dFu_askInput_85 (lv_at hl 4 rfl) ?_
  refine lv_iload_n hx hb dFu_askInput_87 rfl (lv_at hl 2 rfl) ?_
  refine lv_iload hx hb dFu_askInput_88 (lv_at hl 5 rfl) ?_
  refine lv_iadd hx hb dFu_askInput_90 ?_
  refine lv_topi (fun x_1 ex_1 => ?_)
  have h := op_ks ex_1 h
  obtain ⟨hi_2, h⟩ := op_n h
  refine va_iast (D := D) hx hb hK hP hD hS 2 0 rfl rfl hi_2 dFu_askInput_91 (fun H locs hP hD hS => ?_)
  have hP : va_P D vwCl (wFu K h0 a0 (xp o0 2 v4.toNatClampNeg x_1)) H := hP
  have hD : va_D A (wFu K h0 a0 (xp o0 2 v4.toNatClampNeg x_1)) := hD
  obtain ⟨o_3, eo_3, h⟩ := op_kx h
  rw [← eo_3] at hP hD
  exact bFu_askInput_92 C ih _ _ _ _ _ _ h hP hD hS (lv_sub hl [0, 1, 2, 3, 4] rfl)
set_option maxHeartbeats 4000000 in
set_option maxRecDepth 100000 in
theorem bFu_askInput_5 {p : Program} {l : Launch} {e : Env} {s : State} {m : MethodId} {below : List Frame} {meth : Method} {c : Code} {A : Nat → Prop} {D : va_G} {K : Nat → ClassId} {h0 : Nat} {a0 : Nat → Nat} {AR : Array Value} (C : (dc_C p s m AR meth c cFu_askInput 8 (Option.some Jvm.ClassFile.FieldType.int) yFu_askInput ∧ cf_E D K A s s.heap ∧ ∀ q, s.heap.size ≤ q → A q)) {n : Nat} (ih : IhFu_askInput p l e s m below meth c A D K h0 a0 AR n) (v1 : Int32) (v2 : Int32) (v3 : Int32) (v4 : Int32) (o0 : cf_O) (r : Int32 × cf_O) (h : fFu_askInput_5 (gFu_askInput n) v1 v2 v3 v4 o0 = some r) {H : Heap} {locs : List Loc} {ls : Array Slot} (hP : va_P D vwCl (wFu K h0 a0 o0) H) (hD : va_D A (wFu K h0 a0 o0)) (hS : va_S A s.heap H locs) (hl : lv_has ls 8 [(0, .ref h0), (1, .int v1), (2, .int v2), (3, .int v3), (4, .int v4)]) : W p l e ({ frames := 1, cells := 0, slots := 0, locals := 24 }) s m AR below meth c H locs 0 0 (MQ below (va_Qi (fun (x : Int32) (_ : Unit) => x = r.1) (fun (_ : Unit) t => cf_At D A (wFu K h0 a0 r.2) t) A) AR s 0 0 A) (F0 m 5 ls []) := by
  obtain ⟨⟨hx, hb, hr, hts, hown, hlocks, hin, hml⟩, hE, hA⟩ := id C
  have hK := hE.k
  refine lv_iload hx hb dFu_askInput_5 (lv_at hl 4 rfl) ?_
  refine lv_iconst (v := 1) hx hb dFu_askInput_7 (by decide) ?_
  refine lv_iload_n hx hb dFu_askInput_8 rfl (lv_at hl 1 rfl) ?_
  refine lv_ishl hx hb dFu_askInput_9 ?_
  refine lv_topi (fun x_1 ex_1 => ?_)
  have h := op_ks ex_1 h
  refine lv_icmp_ge (tgt := 98) hx hb dFu_askInput_10 (by decide) (fun c_2 => ?_) (fun c_2 => ?_)
  · have h := op_t c_2 h
    refine lv_iload_n hx hb dFu_askInput_98 rfl (lv_at hl 3 rfl) ?_
    obtain rfl := Option.some.inj h
    exact dc_iret hx hb hr hlocks rfl hP hD hS dFu_askInput_99
  · have h := op_f c_2 h
    refine lv_aload_n hx hb dFu_askInput_13 rfl (lv_at hl 0 rfl) ?_
    refine va_get (D := D) (ci := 4) (v := .ref (a0 2)) (C := RFu) (T := TFu) (N := 5) hx hb hts inFu hown hK hP 0 rfl rfl 2 (by decide) (hts _ wv_243) (fun _ h9 => h9) rfl dFu_askInput_14 ?_
    refine lv_iload hx hb dFu_askInput_17 (lv_at hl 4 rfl) ?_
    obtain ⟨hi_3, h⟩ := op_n h
    refine va_iald (D := D) hx hb hK hP 2 0 rfl rfl hi_3 dFu_askInput_19 ?_
    refine lv_topi (fun x_4 ex_4 => ?_)
    have h := op_ks ex_4 h
    refine lv_istore (lv' := [(5, .int x_4), (0, .ref h0), (1, .int v1), (2, .int v2), (3, .int v3), (4, .int v4)]) hx hb dFu_askInput_20 hl (by decide) rfl (fun ls hl => ?_)
    refine lv_aload_n hx hb dFu_askInput_22 rfl (lv_at hl 1 rfl) ?_
    refine va_get (D := D) (ci := 4) (v := .ref (a0 2)) (C := RFu) (T := TFu) (N := 5) hx hb hts inFu hown hK hP 0 rfl rfl 2 (by decide) (hts _ wv_243) (fun _ h9 => h9) rfl dFu_askInput_23 ?_
    refine lv_iload hx hb dFu_askInput_26 (lv_at hl 5 rfl) ?_
    refine lv_iconst (v := 1) hx hb dFu_askInput_28 (by decide) ?_
    refine lv_iload_n hx hb dFu_askInput_29 rfl (lv_at hl 2 rfl) ?_
    refine lv_ishl hx hb dFu_askInput_30 ?_
    refine lv_topi (fun x_5 ex_5 => ?_)
    have h := op_ks ex_5 h
    refine lv_iadd hx hb dFu_askInput_31 ?_
    refine lv_topi (fun x_6 ex_6 => ?_)
    have h := op_ks ex_6 h
    obtain ⟨hi_7, h⟩ := op_n h
    refine va_iald (D := D) hx hb hK hP 2 0 rfl rfl hi_7 dFu_askInput_32 ?_
    refine lv_topi (fun x_8 ex_8 => ?_)
    have h := op_ks ex_8 h
    refine lv_istore (lv' := [(6, .int x_8), (5, .int x_4), (0, .ref h0), (1, .int v1), (2, .int v2), (3, .int v3), (4, .int v4)]) hx hb dFu_askInput_33 hl (by decide) rfl (fun ls hl => ?_)
    refine lv_iload hx hb dFu_askInput_35 (lv_at hl 1 rfl) ?_
    refine lv_iload hx hb dFu_askInput_37 (lv_at hl 0 rfl) ?_
    refine lv_icmp_ne (tgt := 45) hx hb dFu_askInput_39 (by decide) (fun c_9 => ?_) (fun c_9 => ?_)
    · have h := op_f c_9 h
      refine lv_aload_n hx hb dFu_askInput_45 rfl (lv_at hl 2 rfl) ?_
      refine lv_iload hx hb dFu_askInput_46 (lv_at hl 1 rfl) ?_
      refine lv_iload hx hb dFu_askInput_48 (lv_at hl 0 rfl) ?_
      refine lv_iload_n hx hb dFu_askInput_50 rfl (lv_at hl 5 rfl) ?_
      obtain ⟨q_10, hq_10, h⟩ := op_b h
      refine dc_calli (va_runV (As := [.int x_4, .int x_8, .int v3]) (rest := []) ⟨hx, hb, hml, hown, hts⟩ (mFu_questionOf l D K _ x_4 x_8 v3 h0 a0 o0 _ hq_10) (cwV 3 hts (cf_GV wv_1424 wv_1426 wv_50 wv_159 wv_1427) rfl rfl rfl (by decide +kernel) ⟨Nat.le_of_ble_eq_true rfl, Nat.le_of_ble_eq_true rfl⟩) (dc_preV hE hP hD hS hA rfl 0 rfl) rfl rfl hl.1 rfl (lv_room (Nat.le_of_ble_eq_true rfl)) dFu_askInput_51 ⟨Nat.le_of_ble_eq_true rfl, Nat.le_of_ble_eq_true rfl⟩) hP hD hS hA (fun r_11 H locs hw_12 hP hD hS => ?_)
      subst r_11
      refine lv_istore (lv' := [(7, .int q_10), (6, .int x_8), (5, .int x_4), (0, .ref h0), (1, .int v1), (2, .int v2), (3, .int v3), (4, .int v4)]) hx hb dFu_askInput_54 hl (by decide) rfl (fun ls hl => ?_)
      refine lv_iload hx hb dFu_askInput_56 (lv_at hl 0 rfl) ?_
      refine lv_iload_n hx hb dFu_askInput_58 rfl (lv_at hl 6 rfl) ?_
      refine lv_icmp_ne (tgt := 81) hx hb dFu_askInput_59 (by decide) (fun c_13 => ?_) (fun c_13 => ?_)
      · have h := op_f c_13 h
        exact bFu_askInput_81 C ih _ _ _ _ _ _ _ h hP hD hS (lv_sub hl [3, 4, 5, 6, 7, 0] rfl)
      · have h := op_t c_13 h
        refine lv_aload_n hx hb dFu_askInput_62 rfl (lv_at hl 3 rfl) ?_
        refine va_get (D := D) (ci := 4) (v := .ref (a0 3)) (C := RFu) (T := TFu) (N := 5) hx hb hts inFu hown hK hP 0 rfl rfl 3 (by decide) (hts _ wv_244) (fun _ h9 => h9) rfl dFu_askInput_63 ?_
        refine lv_iload_n hx hb dFu_askInput_66 rfl (lv_at hl 6 rfl) ?_
        refine lv_iload hx hb dFu_askInput_67 (lv_at hl 2 rfl) ?_
        obtain ⟨hi_14, h⟩ := op_n h
        refine va_iast (D := D) hx hb hK hP hD hS 3 0 rfl rfl hi_14 dFu_askInput_69 (fun H locs hP hD hS => ?_)
        have hP : va_P D vwCl (wFu K h0 a0 (xp o0 3 v3.toNatClampNeg x_4)) H := hP
        have hD : va_D A (wFu K h0 a0 (xp o0 3 v3.toNatClampNeg x_4)) := hD
        obtain ⟨o_15, eo_15, h⟩ := op_kx h
        rw [← eo_15] at hP hD
        refine lv_aload_n hx hb dFu_askInput_70 rfl (lv_at hl 3 rfl) ?_
        refine va_get (D := D) (ci := 4) (v := .ref (a0 4)) (C := RFu) (T := TFu) (N := 5) hx hb hts inFu hown hK hP 0 rfl rfl 4 (by decide) (hts _ wv_245) (fun _ h9 => h9) rfl dFu_askInput_71 ?_
        refine lv_iload_n hx hb dFu_askInput_74 rfl (lv_at hl 6 rfl) ?_
        refine lv_iload hx hb dFu_askInput_75 (lv_at hl 1 rfl) ?_
        obtain ⟨hi_16, h⟩ := op_n h
        refine va_iast (D := D) hx hb hK hP hD hS 4 0 rfl rfl hi_16 dFu_askInput_77 (fun H locs hP hD hS => ?_)
        have hP : va_P D vwCl (wFu K h0 a0 (xp o_15 4 v3.toNatClampNeg x_8)) H := hP
        have hD : va_D A (wFu K h0 a0 (xp o_15 4 v3.toNatClampNeg x_8)) := hD
        obtain ⟨o_17, eo_17, h⟩ := op_kx h
        rw [← eo_17] at hP hD
        obtain ⟨x_18, ex_18⟩ : ∃ y : Int32, y = v3 + 1 := ⟨_, rfl⟩
        refine lv_iinc (v := x_18) (lv' := [(3, .int x_18), (7, .int q_10), (6, .int x_8), (5, .int x_4), (0, .ref h0), (1, .int v1), (2, .int v2), (4, .int v4)]) hx hb dFu_askInput_78 hl (k := 6) rfl (by rw [ex_18]; rfl) (by decide) rfl (fun ls hl => ?_)
        have h := op_ks ex_18 h
        exact bFu_askInput_81 C ih _ _ _ _ _ _ _ h hP hD hS (lv_sub hl [4, 5, 6, 0, 7, 1] rfl)
    · have h := op_t c_9 h
      refine lv_goto (tgt := 92) hx hb dFu_askInput_42 (by decide) ?_
      exact bFu_askInput_92 C ih _ _ _ _ _ _ h hP hD hS (lv_sub hl [2, 3, 4, 5, 6] rfl)
set_option maxHeartbeats 4000000 in
set_option maxRecDepth 100000 in
theorem bFu_askInput_0 {p : Program} {l : Launch} {e : Env} {s : State} {m : MethodId} {below : List Frame} {meth : Method} {c : Code} {A : Nat → Prop} {D : va_G} {K : Nat → ClassId} {h0 : Nat} {a0 : Nat → Nat} {AR : Array Value} (C : (dc_C p s m AR meth c cFu_askInput 8 (Option.some Jvm.ClassFile.FieldType.int) yFu_askInput ∧ cf_E D K A s s.heap ∧ ∀ q, s.heap.size ≤ q → A q)) {n : Nat} (ih : IhFu_askInput p l e s m below meth c A D K h0 a0 AR n) (v1 : Int32) (v2 : Int32) (o0 : cf_O) (r : Int32 × cf_O) (h : fFu_askInput_0 (gFu_askInput n) v1 v2 o0 = some r) {H : Heap} {locs : List Loc} {ls : Array Slot} (hP : va_P D vwCl (wFu K h0 a0 o0) H) (hD : va_D A (wFu K h0 a0 o0)) (hS : va_S A s.heap H locs) (hl : lv_has ls 8 [(0, .ref h0), (1, .int v1), (2, .int v2)]) : W p l e ({ frames := 1, cells := 0, slots := 0, locals := 24 }) s m AR below meth c H locs 0 0 (MQ below (va_Qi (fun (x : Int32) (_ : Unit) => x = r.1) (fun (_ : Unit) t => cf_At D A (wFu K h0 a0 r.2) t) A) AR s 0 0 A) (F0 m 0 ls []) := by
  obtain ⟨⟨hx, hb, hr, hts, hown, hlocks, hin, hml⟩, hE, hA⟩ := id C
  have hK := hE.k
  refine lv_iconst (v := 0) hx hb dFu_askInput_0 (by decide) ?_
  refine lv_istore_n (lv' := [(3, .int 0), (0, .ref h0), (1, .int v1), (2, .int v2)]) hx hb dFu_askInput_1 rfl hl (by decide) rfl (fun ls hl => ?_)
  refine lv_iconst (v := 0) hx hb dFu_askInput_2 (by decide) ?_
  refine lv_istore (lv' := [(4, .int 0), (3, .int 0), (0, .ref h0), (1, .int v1), (2, .int v2)]) hx hb dFu_askInput_3 hl (by decide) rfl (fun ls hl => ?_)
  exact (ih) _ _ _ _ _ _ h hP hD hS (lv_sub hl [2, 3, 4, 1, 0] rfl)
theorem iFu_askInput {p : Program} {l : Launch} {e : Env} {s : State} {m : MethodId} {below : List Frame} {meth : Method} {c : Code} {A : Nat → Prop} {D : va_G} {K : Nat → ClassId} {h0 : Nat} {a0 : Nat → Nat} {AR : Array Value} (C : (dc_C p s m AR meth c cFu_askInput 8 (Option.some Jvm.ClassFile.FieldType.int) yFu_askInput ∧ cf_E D K A s s.heap ∧ ∀ q, s.heap.size ≤ q → A q)) : ∀ n, IhFu_askInput p l e s m below meth c A D K h0 a0 AR n := by
  intro n
  induction n with
  | zero => exact (fun _ _ _ _ _ r h => by cases (show none = some r from h))
  | succ n ih => exact fun x0 x1 x2 x3 x4 r h _ _ _ hP hD hS hl => bFu_askInput_5 C ih x0 x1 x2 x3 x4 r h hP hD hS hl
set_option maxRecDepth 100000 in
theorem mFu_askInput (l : Launch) (D : va_G) (K : Nat → ClassId) (sz : Nat) (v1 : Int32) (v2 : Int32) (h0 : Nat) (a0 : Nat → Nat) (o0 : cf_O) (r : Int32 × cf_O) (h : fFu_askInput v1 v2 o0 = some r) : Met l yFu_askInput (Cond.code yFu_askInput cFu_askInput 8 (Option.some Jvm.ClassFile.FieldType.int) :: cfB) ({ frames := 1, cells := 0, slots := 0, locals := 24 }) (va_Pc [.ref h0, .int v1, .int v2] (cf_Pre D K sz (wFu K h0 a0 o0))) (va_Qi (fun (x : Int32) (_ : Unit) => x = r.1) (fun (_ : Unit) t => cf_At D (va_A (wFu K h0 a0 o0) sz) (wFu K h0 a0 r.2) t) (va_A (wFu K h0 a0 o0) sz)) 0 0 (va_A (wFu K h0 a0 o0) sz) := by
  refine cf_ofW (y := yFu_askInput) (As := [.ref h0, .int v1, .int v2]) (WS := wFu K h0 a0 o0) (maxL := 8) (fun A => (va_Qi (fun (x : Int32) (_ : Unit) => x = r.1) (fun (_ : Unit) t => cf_At D A (wFu K h0 a0 r.2) t) A)) (by decide) (Nat.le_of_ble_eq_true rfl) ?_
  intro p e s m below meth c A ls En hsz hA hP hD hE hS hl
  have C : (dc_C p s m (([.ref h0, .int v1, .int v2] : List Value).toArray) meth c cFu_askInput 8 (Option.some Jvm.ClassFile.FieldType.int) yFu_askInput ∧ cf_E D K A s s.heap ∧ ∀ q, s.heap.size ≤ q → A q) := ⟨En, hE, hA⟩
  exact bFu_askInput_0 C (iFu_askInput C cfFU) v1 v2 o0 r h hP hD hS hl
def IhFu_questions (p : Program) (l : Launch) (e : Env) (s : State) (m : MethodId) (below : List Frame) (meth : Method) (c : Code) (A : Nat → Prop) (D : va_G) (K : Nat → ClassId) (h0 : Nat) (a0 : Nat → Nat) (AR : Array Value) (n : Nat) : Prop := (∀ (v1 : Int32) (v2 : Int32) (v3 : Int32) (o0 : cf_O) (r : Int32 × cf_O), gFu_questions n 0 v1 v2 v3 0 o0 = some r → ∀ {H : Heap} {locs : List Loc} {ls : Array Slot}, (va_P D vwCl (wFu K h0 a0 o0) H) → (va_D A (wFu K h0 a0 o0)) → va_S A s.heap H locs → lv_has ls 5 [(0, .ref h0), (1, .int v1), (2, .int v2), (3, .int v3)] → W p l e ({ frames := 2, cells := 0, slots := 0, locals := 51 }) s m AR below meth c H locs 0 0 (MQ below (va_Qi (fun (x : Int32) (_ : Unit) => x = r.1) (fun (_ : Unit) t => cf_At D A (wFu K h0 a0 r.2) t) A) AR s 0 0 A) (F0 m 2 ls [])) ∧ (∀ (v3 : Int32) (v4 : Int32) (o0 : cf_O) (r : Int32 × cf_O), gFu_questions n 1 0 0 v3 v4 o0 = some r → ∀ {H : Heap} {locs : List Loc} {ls : Array Slot}, (va_P D vwCl (wFu K h0 a0 o0) H) → (va_D A (wFu K h0 a0 o0)) → va_S A s.heap H locs → lv_has ls 5 [(0, .ref h0), (3, .int v3), (4, .int v4)] → W p l e ({ frames := 2, cells := 0, slots := 0, locals := 51 }) s m AR below meth c H locs 0 0 (MQ below (va_Qi (fun (x : Int32) (_ : Unit) => x = r.1) (fun (_ : Unit) t => cf_At D A (wFu K h0 a0 r.2) t) A) AR s 0 0 A) (F0 m 34 ls []))
set_option maxHeartbeats 4000000 in
set_option maxRecDepth 100000 in
theorem bFu_questions_34 {p : Program} {l : Launch} {e : Env} {s : State} {m : MethodId} {below : List Frame} {meth : Method} {c : Code} {A : Nat → Prop} {D : va_G} {K : Nat → ClassId} {h0 : Nat} {a0 : Nat → Nat} {AR : Array Value} (C : (dc_C p s m AR meth c cFu_questions 5 (Option.some Jvm.ClassFile.FieldType.int) yFu_questions ∧ cf_E D K A s s.heap ∧ ∀ q, s.heap.size ≤ q → A q)) {n : Nat} (ih : IhFu_questions p l e s m below meth c A D K h0 a0 AR n) (v3 : Int32) (v4 : Int32) (o0 : cf_O) (r : Int32 × cf_O) (h : fFu_questions_34 (gFu_questions n) v3 v4 o0 = some r) {H : Heap} {locs : List Loc} {ls : Array Slot} (hP : va_P D vwCl (wFu K h0 a0 o0) H) (hD : va_D A (wFu K h0 a0 o0)) (hS : va_S A s.heap H locs) (hl : lv_has ls 5 [(0, .ref h0), (3, .int v3), (4, .int v4)]) : W p l e ({ frames := 2, cells := 0, slots := 0, locals := 51 }) s m AR below meth c H locs 0 0 (MQ below (va_Qi (fun (x : Int32) (_ : Unit) => x = r.1) (fun (_ : Unit) t => cf_At D A (wFu K h0 a0 r.2) t) A) AR s 0 0 A) (F0 m 34 ls []) := by
  obtain ⟨⟨hx, hb, hr, hts, hown, hlocks, hin, hml⟩, hE, hA⟩ := id C
  have hK := hE.k
  refine lv_iload hx hb dFu_questions_34 (lv_at hl 2 rfl) ?_
  refine lv_if_lt (tgt := 57) hx hb dFu_questions_36 (by decide) (fun c_1 => ?_) (fun c_1 => ?_)
  · have h := op_t c_1 h
    refine lv_iload_n hx hb dFu_questions_57 rfl (lv_at hl 1 rfl) ?_
    obtain rfl := Option.some.inj h
    exact dc_iret hx hb hr hlocks rfl hP hD hS dFu_questions_58
  · have h := op_f c_1 h
    refine lv_iload_n hx hb dFu_questions_39 rfl (lv_at hl 1 rfl) ?_
    refine lv_aload_n hx hb dFu_questions_40 rfl (lv_at hl 0 rfl) ?_
    refine lv_iload hx hb dFu_questions_41 (lv_at hl 2 rfl) ?_
    refine lv_iload_n hx hb dFu_questions_43 rfl (lv_at hl 1 rfl) ?_
    refine lv_iconst (v := 2) hx hb dFu_questions_44 (by decide) ?_
    refine lv_iadd hx hb dFu_questions_45 ?_
    refine lv_topi (fun x_2 ex_2 => ?_)
    have h := op_ks ex_2 h
    obtain ⟨q_3, hq_3, h⟩ := op_b h
    refine dc_calli (va_runV (As := [.int v4, .int x_2]) (rest := [.int v3]) ⟨hx, hb, hml, hown, hts⟩ (mFu_askInput l D K _ v4 x_2 h0 a0 o0 _ hq_3) (cwV 2 hts (cf_GV wv_1420 wv_1422 wv_49 wv_159 wv_1423) rfl rfl rfl (by decide +kernel) ⟨Nat.le_of_ble_eq_true rfl, Nat.le_of_ble_eq_true rfl⟩) (dc_preV hE hP hD hS hA rfl 0 rfl) rfl rfl hl.1 rfl (lv_room (Nat.le_of_ble_eq_true rfl)) dFu_questions_46 ⟨Nat.le_of_ble_eq_true rfl, Nat.le_of_ble_eq_true rfl⟩) hP hD hS hA (fun r_4 H locs hw_5 hP hD hS => ?_)
    subst r_4
    refine lv_iadd hx hb dFu_questions_49 ?_
    refine lv_topi (fun x_6 ex_6 => ?_)
    have h := op_ks ex_6 h
    refine lv_istore_n (lv' := [(3, .int x_6), (0, .ref h0), (4, .int v4)]) hx hb dFu_questions_50 rfl hl (by decide) rfl (fun ls hl => ?_)
    obtain ⟨x_7, ex_7⟩ : ∃ y : Int32, y = v4 + (-1) := ⟨_, rfl⟩
    refine lv_iinc (v := x_7) (lv' := [(4, .int x_7), (3, .int x_6), (0, .ref h0)]) hx hb dFu_questions_51 hl (k := 2) rfl (by rw [ex_7]; rfl) (by decide) rfl (fun ls hl => ?_)
    have h := op_ks ex_7 h
    refine lv_goto (tgt := 34) hx hb dFu_questions_54 (by decide) ?_
    exact (ih.2) _ _ _ _ h hP hD hS (lv_sub hl [2, 1, 0] rfl)
set_option maxHeartbeats 4000000 in
set_option maxRecDepth 100000 in
theorem bFu_questions_2 {p : Program} {l : Launch} {e : Env} {s : State} {m : MethodId} {below : List Frame} {meth : Method} {c : Code} {A : Nat → Prop} {D : va_G} {K : Nat → ClassId} {h0 : Nat} {a0 : Nat → Nat} {AR : Array Value} (C : (dc_C p s m AR meth c cFu_questions 5 (Option.some Jvm.ClassFile.FieldType.int) yFu_questions ∧ cf_E D K A s s.heap ∧ ∀ q, s.heap.size ≤ q → A q)) {n : Nat} (ih : IhFu_questions p l e s m below meth c A D K h0 a0 AR n) (v1 : Int32) (v2 : Int32) (v3 : Int32) (o0 : cf_O) (r : Int32 × cf_O) (h : fFu_questions_2 (gFu_questions n) v1 v2 v3 o0 = some r) {H : Heap} {locs : List Loc} {ls : Array Slot} (hP : va_P D vwCl (wFu K h0 a0 o0) H) (hD : va_D A (wFu K h0 a0 o0)) (hS : va_S A s.heap H locs) (hl : lv_has ls 5 [(0, .ref h0), (1, .int v1), (2, .int v2), (3, .int v3)]) : W p l e ({ frames := 2, cells := 0, slots := 0, locals := 51 }) s m AR below meth c H locs 0 0 (MQ below (va_Qi (fun (x : Int32) (_ : Unit) => x = r.1) (fun (_ : Unit) t => cf_At D A (wFu K h0 a0 r.2) t) A) AR s 0 0 A) (F0 m 2 ls []) := by
  obtain ⟨⟨hx, hb, hr, hts, hown, hlocks, hin, hml⟩, hE, hA⟩ := id C
  have hK := hE.k
  refine lv_iload_n hx hb dFu_questions_2 rfl (lv_at hl 3 rfl) ?_
  refine lv_iconst (v := 1) hx hb dFu_questions_3 (by decide) ?_
  refine lv_iload_n hx hb dFu_questions_4 rfl (lv_at hl 2 rfl) ?_
  refine lv_ishl hx hb dFu_questions_5 ?_
  refine lv_topi (fun x_1 ex_1 => ?_)
  have h := op_ks ex_1 h
  refine lv_icmp_ge (tgt := 27) hx hb dFu_questions_6 (by decide) (fun c_2 => ?_) (fun c_2 => ?_)
  · have h := op_t c_2 h
    refine lv_iconst (v := 0) hx hb dFu_questions_27 (by decide) ?_
    refine lv_istore_n (lv' := [(3, .int 0), (0, .ref h0), (1, .int v1), (2, .int v2)]) hx hb dFu_questions_28 rfl hl (by decide) rfl (fun ls hl => ?_)
    refine lv_iload_n hx hb dFu_questions_29 rfl (lv_at hl 3 rfl) ?_
    refine lv_iconst (v := 1) hx hb dFu_questions_30 (by decide) ?_
    refine lv_isub hx hb dFu_questions_31 ?_
    refine lv_topi (fun x_3 ex_3 => ?_)
    have h := op_ks ex_3 h
    refine lv_istore (lv' := [(4, .int x_3), (3, .int 0), (0, .ref h0), (1, .int v1), (2, .int v2)]) hx hb dFu_questions_32 hl (by decide) rfl (fun ls hl => ?_)
    exact (ih.2) _ _ _ _ h hP hD hS (lv_sub hl [2, 1, 0] rfl)
  · have h := op_f c_2 h
    refine lv_aload_n hx hb dFu_questions_9 rfl (lv_at hl 0 rfl) ?_
    refine va_get (D := D) (ci := 4) (v := .ref (a0 2)) (C := RFu) (T := TFu) (N := 5) hx hb hts inFu hown hK hP 0 rfl rfl 2 (by decide) (hts _ wv_243) (fun _ h9 => h9) rfl dFu_questions_10 ?_
    refine lv_iload_n hx hb dFu_questions_13 rfl (lv_at hl 3 rfl) ?_
    refine lv_aload_n hx hb dFu_questions_14 rfl (lv_at hl 0 rfl) ?_
    refine lv_iload_n hx hb dFu_questions_15 rfl (lv_at hl 1 rfl) ?_
    refine lv_iload_n hx hb dFu_questions_16 rfl (lv_at hl 3 rfl) ?_
    obtain ⟨q_4, hq_4, h⟩ := op_b h
    refine dc_calli (va_runV (As := [.int v1, .int v3]) (rest := [.int v3, .ref (a0 2)]) ⟨hx, hb, hml, hown, hts⟩ (mFu_bit l D K _ v1 v3 h0 a0 o0 _ hq_4) (cwV 2 hts (cf_GV wv_1419 wv_1178 wv_1179 wv_159 wv_1180) rfl rfl rfl (by decide +kernel) ⟨Nat.le_of_ble_eq_true rfl, Nat.le_of_ble_eq_true rfl⟩) (dc_preV hE hP hD hS hA rfl 0 rfl) rfl rfl hl.1 rfl (lv_room (Nat.le_of_ble_eq_true rfl)) dFu_questions_17 ⟨Nat.le_of_ble_eq_true rfl, Nat.le_of_ble_eq_true rfl⟩) hP hD hS hA (fun r_5 H locs hw_6 hP hD hS => ?_)
    subst r_5
    obtain ⟨hi_7, h⟩ := op_n h
    refine va_iast (D := D) hx hb hK hP hD hS 2 0 rfl rfl hi_7 dFu_questions_20 (fun H locs hP hD hS => ?_)
    have hP : va_P D vwCl (wFu K h0 a0 (xp o0 2 v3.toNatClampNeg q_4)) H := hP
    have hD : va_D A (wFu K h0 a0 (xp o0 2 v3.toNatClampNeg q_4)) := hD
    obtain ⟨o_8, eo_8, h⟩ := op_kx h
    rw [← eo_8] at hP hD
    obtain ⟨x_9, ex_9⟩ : ∃ y : Int32, y = v3 + 1 := ⟨_, rfl⟩
    refine lv_iinc (v := x_9) (lv' := [(3, .int x_9), (0, .ref h0), (1, .int v1), (2, .int v2)]) hx hb dFu_questions_21 hl (k := 3) rfl (by rw [ex_9]; rfl) (by decide) rfl (fun ls hl => ?_)
    have h := op_ks ex_9 h
    refine lv_goto (tgt := 2) hx hb dFu_questions_24 (by decide) ?_
    exact (ih.1) _ _ _ _ _ h hP hD hS (lv_sub hl [1, 2, 3, 0] rfl)
set_option maxHeartbeats 4000000 in
set_option maxRecDepth 100000 in
theorem bFu_questions_0 {p : Program} {l : Launch} {e : Env} {s : State} {m : MethodId} {below : List Frame} {meth : Method} {c : Code} {A : Nat → Prop} {D : va_G} {K : Nat → ClassId} {h0 : Nat} {a0 : Nat → Nat} {AR : Array Value} (C : (dc_C p s m AR meth c cFu_questions 5 (Option.some Jvm.ClassFile.FieldType.int) yFu_questions ∧ cf_E D K A s s.heap ∧ ∀ q, s.heap.size ≤ q → A q)) {n : Nat} (ih : IhFu_questions p l e s m below meth c A D K h0 a0 AR n) (v1 : Int32) (v2 : Int32) (o0 : cf_O) (r : Int32 × cf_O) (h : fFu_questions_0 (gFu_questions n) v1 v2 o0 = some r) {H : Heap} {locs : List Loc} {ls : Array Slot} (hP : va_P D vwCl (wFu K h0 a0 o0) H) (hD : va_D A (wFu K h0 a0 o0)) (hS : va_S A s.heap H locs) (hl : lv_has ls 5 [(0, .ref h0), (1, .int v1), (2, .int v2)]) : W p l e ({ frames := 2, cells := 0, slots := 0, locals := 51 }) s m AR below meth c H locs 0 0 (MQ below (va_Qi (fun (x : Int32) (_ : Unit) => x = r.1) (fun (_ : Unit) t => cf_At D A (wFu K h0 a0 r.2) t) A) AR s 0 0 A) (F0 m 0 ls []) := by
  obtain ⟨⟨hx, hb, hr, hts, hown, hlocks, hin, hml⟩, hE, hA⟩ := id C
  have hK := hE.k
  refine lv_iconst (v := 0) hx hb dFu_questions_0 (by decide) ?_
  refine lv_istore_n (lv' := [(3, .int 0), (0, .ref h0), (1, .int v1), (2, .int v2)]) hx hb dFu_questions_1 rfl hl (by decide) rfl (fun ls hl => ?_)
  exact (ih.1) _ _ _ _ _ h hP hD hS (lv_sub hl [1, 2, 3, 0] rfl)
theorem iFu_questions {p : Program} {l : Launch} {e : Env} {s : State} {m : MethodId} {below : List Frame} {meth : Method} {c : Code} {A : Nat → Prop} {D : va_G} {K : Nat → ClassId} {h0 : Nat} {a0 : Nat → Nat} {AR : Array Value} (C : (dc_C p s m AR meth c cFu_questions 5 (Option.some Jvm.ClassFile.FieldType.int) yFu_questions ∧ cf_E D K A s s.heap ∧ ∀ q, s.heap.size ≤ q → A q)) : ∀ n, IhFu_questions p l e s m below meth c A D K h0 a0 AR n := by
  intro n
  induction n with
  | zero => exact ⟨(fun _ _ _ _ r h => by cases (show none = some r from h)), (fun _ _ _ r h => by cases (show none = some r from h))⟩
  | succ n ih => exact ⟨fun x0 x1 x2 x3 r h _ _ _ hP hD hS hl => bFu_questions_2 C ih x0 x1 x2 x3 r h hP hD hS hl, fun x0 x1 x2 r h _ _ _ hP hD hS hl => bFu_questions_34 C ih x0 x1 x2 r h hP hD hS hl⟩
set_option maxRecDepth 100000 in
theorem mFu_questions (l : Launch) (D : va_G) (K : Nat → ClassId) (sz : Nat) (v1 : Int32) (v2 : Int32) (h0 : Nat) (a0 : Nat → Nat) (o0 : cf_O) (r : Int32 × cf_O) (h : fFu_questions v1 v2 o0 = some r) : Met l yFu_questions (Cond.code yFu_questions cFu_questions 5 (Option.some Jvm.ClassFile.FieldType.int) :: cfB) ({ frames := 2, cells := 0, slots := 0, locals := 51 }) (va_Pc [.ref h0, .int v1, .int v2] (cf_Pre D K sz (wFu K h0 a0 o0))) (va_Qi (fun (x : Int32) (_ : Unit) => x = r.1) (fun (_ : Unit) t => cf_At D (va_A (wFu K h0 a0 o0) sz) (wFu K h0 a0 r.2) t) (va_A (wFu K h0 a0 o0) sz)) 0 0 (va_A (wFu K h0 a0 o0) sz) := by
  refine cf_ofW (y := yFu_questions) (As := [.ref h0, .int v1, .int v2]) (WS := wFu K h0 a0 o0) (maxL := 5) (fun A => (va_Qi (fun (x : Int32) (_ : Unit) => x = r.1) (fun (_ : Unit) t => cf_At D A (wFu K h0 a0 r.2) t) A)) (by decide) (Nat.le_of_ble_eq_true rfl) ?_
  intro p e s m below meth c A ls En hsz hA hP hD hE hS hl
  have C : (dc_C p s m (([.ref h0, .int v1, .int v2] : List Value).toArray) meth c cFu_questions 5 (Option.some Jvm.ClassFile.FieldType.int) yFu_questions ∧ cf_E D K A s s.heap ∧ ∀ q, s.heap.size ≤ q → A q) := ⟨En, hE, hA⟩
  exact bFu_questions_0 C (iFu_questions C cfFU) v1 v2 o0 r h hP hD hS hl
def IhJArrays_fill_AII_Gr8 (p : Program) (l : Launch) (e : Env) (s : State) (m : MethodId) (below : List Frame) (meth : Method) (c : Code) (A : Nat → Prop) (D : va_G) (K : Nat → ClassId) (h0 : Nat) (a0 : Nat → Nat) (AR : Array Value) (n : Nat) : Prop := (∀ (v1 : Int32) (v2 : Int32) (v3 : Int32) (o0 : cf_O) (r : cf_O), gJArrays_fill_AII_Gr8 n 0 v1 v2 v3 o0 = some r → ∀ {H : Heap} {locs : List Loc} {ls : Array Slot}, (va_P D vwCl (wGr K h0 a0 o0) H) → (va_D A (wGr K h0 a0 o0)) → va_S A s.heap H locs → lv_has ls 4 [(0, .ref (a0 8)), (1, .int v1), (2, .int v2), (3, .int v3)] → W p l e ({ frames := 0, cells := 0, slots := 0, locals := 0 }) s m AR below meth c H locs 0 0 (MQ below (va_Qv (fun (_ : Unit) => True) (fun (_ : Unit) t => cf_At D A (wGr K h0 a0 r) t) A) AR s 0 0 A) (F0 m 5 ls []))
set_option maxHeartbeats 4000000 in
set_option maxRecDepth 100000 in
theorem bJArrays_fill_AII_Gr8_5 {p : Program} {l : Launch} {e : Env} {s : State} {m : MethodId} {below : List Frame} {meth : Method} {c : Code} {A : Nat → Prop} {D : va_G} {K : Nat → ClassId} {h0 : Nat} {a0 : Nat → Nat} {AR : Array Value} (C : (dc_C p s m AR meth c cJArrays_fill_AII 4 (Option.none : Option Jvm.ClassFile.FieldType) yJArrays_fill_AII ∧ cf_E D K A s s.heap ∧ ∀ q, s.heap.size ≤ q → A q)) {n : Nat} (ih : IhJArrays_fill_AII_Gr8 p l e s m below meth c A D K h0 a0 AR n) (v1 : Int32) (v2 : Int32) (v3 : Int32) (o0 : cf_O) (r : cf_O) (h : fJArrays_fill_AII_Gr8_5 (gJArrays_fill_AII_Gr8 n) v1 v2 v3 o0 = some r) {H : Heap} {locs : List Loc} {ls : Array Slot} (hP : va_P D vwCl (wGr K h0 a0 o0) H) (hD : va_D A (wGr K h0 a0 o0)) (hS : va_S A s.heap H locs) (hl : lv_has ls 4 [(0, .ref (a0 8)), (1, .int v1), (2, .int v2), (3, .int v3)]) : W p l e ({ frames := 0, cells := 0, slots := 0, locals := 0 }) s m AR below meth c H locs 0 0 (MQ below (va_Qv (fun (_ : Unit) => True) (fun (_ : Unit) t => cf_At D A (wGr K h0 a0 r) t) A) AR s 0 0 A) (F0 m 5 ls []) := by
  obtain ⟨⟨hx, hb, hr, hts, hown, hlocks, hin, hml⟩, hE, hA⟩ := id C
  have hK := hE.k
  refine lv_iload_n hx hb dJArrays_fill_AII_5 rfl (lv_at hl 2 rfl) ?_
  refine lv_iload_n hx hb dJArrays_fill_AII_6 rfl (lv_at hl 3 rfl) ?_
  refine lv_icmp_ge (tgt := 20) hx hb dJArrays_fill_AII_7 (by decide) (fun c_1 => ?_) (fun c_1 => ?_)
  · have h := op_t c_1 h
    obtain rfl := Option.some.inj h
    exact dc_vret hx hb hr hlocks rfl hP hD hS dJArrays_fill_AII_20
  · have h := op_f c_1 h
    refine lv_aload_n hx hb dJArrays_fill_AII_10 rfl (lv_at hl 0 rfl) ?_
    refine lv_iload_n hx hb dJArrays_fill_AII_11 rfl (lv_at hl 2 rfl) ?_
    refine lv_iload_n hx hb dJArrays_fill_AII_12 rfl (lv_at hl 1 rfl) ?_
    obtain ⟨hi_2, h⟩ := op_n h
    refine va_iast (D := D) hx hb hK hP hD hS 5 0 rfl rfl hi_2 dJArrays_fill_AII_13 (fun H locs hP hD hS => ?_)
    have hP : va_P D vwCl (wGr K h0 a0 (xp o0 8 v2.toNatClampNeg v1)) H := hP
    have hD : va_D A (wGr K h0 a0 (xp o0 8 v2.toNatClampNeg v1)) := hD
    obtain ⟨o_3, eo_3, h⟩ := op_kx h
    rw [← eo_3] at hP hD
    obtain ⟨x_4, ex_4⟩ : ∃ y : Int32, y = v2 + 1 := ⟨_, rfl⟩
    refine lv_iinc (v := x_4) (lv' := [(2, .int x_4), (0, .ref (a0 8)), (1, .int v1), (3, .int v3)]) hx hb dJArrays_fill_AII_14 hl (k := 2) rfl (by rw [ex_4]; rfl) (by decide) rfl (fun ls hl => ?_)
    have h := op_ks ex_4 h
    refine lv_goto (tgt := 5) hx hb dJArrays_fill_AII_17 (by decide) ?_
    exact (ih) _ _ _ _ _ h hP hD hS (lv_sub hl [1, 2, 0, 3] rfl)
set_option maxHeartbeats 4000000 in
set_option maxRecDepth 100000 in
theorem bJArrays_fill_AII_Gr8_0 {p : Program} {l : Launch} {e : Env} {s : State} {m : MethodId} {below : List Frame} {meth : Method} {c : Code} {A : Nat → Prop} {D : va_G} {K : Nat → ClassId} {h0 : Nat} {a0 : Nat → Nat} {AR : Array Value} (C : (dc_C p s m AR meth c cJArrays_fill_AII 4 (Option.none : Option Jvm.ClassFile.FieldType) yJArrays_fill_AII ∧ cf_E D K A s s.heap ∧ ∀ q, s.heap.size ≤ q → A q)) {n : Nat} (ih : IhJArrays_fill_AII_Gr8 p l e s m below meth c A D K h0 a0 AR n) (v1 : Int32) (o0 : cf_O) (r : cf_O) (h : fJArrays_fill_AII_Gr8_0 (gJArrays_fill_AII_Gr8 n) v1 o0 = some r) {H : Heap} {locs : List Loc} {ls : Array Slot} (hP : va_P D vwCl (wGr K h0 a0 o0) H) (hD : va_D A (wGr K h0 a0 o0)) (hS : va_S A s.heap H locs) (hl : lv_has ls 4 [(0, .ref (a0 8)), (1, .int v1)]) : W p l e ({ frames := 0, cells := 0, slots := 0, locals := 0 }) s m AR below meth c H locs 0 0 (MQ below (va_Qv (fun (_ : Unit) => True) (fun (_ : Unit) t => cf_At D A (wGr K h0 a0 r) t) A) AR s 0 0 A) (F0 m 0 ls []) := by
  obtain ⟨⟨hx, hb, hr, hts, hown, hlocks, hin, hml⟩, hE, hA⟩ := id C
  have hK := hE.k
  refine lv_iconst (v := 0) hx hb dJArrays_fill_AII_0 (by decide) ?_
  refine lv_istore_n (lv' := [(2, .int 0), (0, .ref (a0 8)), (1, .int v1)]) hx hb dJArrays_fill_AII_1 rfl hl (by decide) rfl (fun ls hl => ?_)
  refine lv_aload_n hx hb dJArrays_fill_AII_2 rfl (lv_at hl 1 rfl) ?_
  refine va_alen (D := D) (v := 418) hx hb hK hP 5 0 rfl rfl rfl dJArrays_fill_AII_3 ?_
  refine lv_istore_n (lv' := [(3, .int 418), (2, .int 0), (0, .ref (a0 8)), (1, .int v1)]) hx hb dJArrays_fill_AII_4 rfl hl (by decide) rfl (fun ls hl => ?_)
  exact (ih) _ _ _ _ _ h hP hD hS (lv_sub hl [2, 3, 1, 0] rfl)
theorem iJArrays_fill_AII_Gr8 {p : Program} {l : Launch} {e : Env} {s : State} {m : MethodId} {below : List Frame} {meth : Method} {c : Code} {A : Nat → Prop} {D : va_G} {K : Nat → ClassId} {h0 : Nat} {a0 : Nat → Nat} {AR : Array Value} (C : (dc_C p s m AR meth c cJArrays_fill_AII 4 (Option.none : Option Jvm.ClassFile.FieldType) yJArrays_fill_AII ∧ cf_E D K A s s.heap ∧ ∀ q, s.heap.size ≤ q → A q)) : ∀ n, IhJArrays_fill_AII_Gr8 p l e s m below meth c A D K h0 a0 AR n := by
  intro n
  induction n with
  | zero => exact (fun _ _ _ _ r h => by cases (show none = some r from h))
  | succ n ih => exact fun x0 x1 x2 x3 r h _ _ _ hP hD hS hl => bJArrays_fill_AII_Gr8_5 C ih x0 x1 x2 x3 r h hP hD hS hl
set_option maxRecDepth 100000 in
theorem mJArrays_fill_AII_Gr8 (l : Launch) (D : va_G) (K : Nat → ClassId) (sz : Nat) (v1 : Int32) (h0 : Nat) (a0 : Nat → Nat) (o0 : cf_O) (r : cf_O) (h : fJArrays_fill_AII_Gr8 v1 o0 = some r) : Met l yJArrays_fill_AII (Cond.code yJArrays_fill_AII cJArrays_fill_AII 4 (Option.none : Option Jvm.ClassFile.FieldType) :: cfB) ({ frames := 0, cells := 0, slots := 0, locals := 0 }) (va_Pc [.ref (a0 8), .int v1] (cf_Pre D K sz (wGr K h0 a0 o0))) (va_Qv (fun (_ : Unit) => True) (fun (_ : Unit) t => cf_At D (va_A (wGr K h0 a0 o0) sz) (wGr K h0 a0 r) t) (va_A (wGr K h0 a0 o0) sz)) 0 0 (va_A (wGr K h0 a0 o0) sz) := by
  refine cf_ofW (y := yJArrays_fill_AII) (As := [.ref (a0 8), .int v1]) (WS := wGr K h0 a0 o0) (maxL := 4) (fun A => (va_Qv (fun (_ : Unit) => True) (fun (_ : Unit) t => cf_At D A (wGr K h0 a0 r) t) A)) (by decide) (Nat.le_of_ble_eq_true rfl) ?_
  intro p e s m below meth c A ls En hsz hA hP hD hE hS hl
  have C : (dc_C p s m (([.ref (a0 8), .int v1] : List Value).toArray) meth c cJArrays_fill_AII 4 (Option.none : Option Jvm.ClassFile.FieldType) yJArrays_fill_AII ∧ cf_E D K A s s.heap ∧ ∀ q, s.heap.size ≤ q → A q) := ⟨En, hE, hA⟩
  exact bJArrays_fill_AII_Gr8_0 C (iJArrays_fill_AII_Gr8 C cfFU) v1 o0 r h hP hD hS hl
def IhJArrays_fill_AII_Gr6 (p : Program) (l : Launch) (e : Env) (s : State) (m : MethodId) (below : List Frame) (meth : Method) (c : Code) (A : Nat → Prop) (D : va_G) (K : Nat → ClassId) (h0 : Nat) (a0 : Nat → Nat) (AR : Array Value) (n : Nat) : Prop := (∀ (v1 : Int32) (v2 : Int32) (v3 : Int32) (o0 : cf_O) (r : cf_O), gJArrays_fill_AII_Gr6 n 0 v1 v2 v3 o0 = some r → ∀ {H : Heap} {locs : List Loc} {ls : Array Slot}, (va_P D vwCl (wGr K h0 a0 o0) H) → (va_D A (wGr K h0 a0 o0)) → va_S A s.heap H locs → lv_has ls 4 [(0, .ref (a0 6)), (1, .int v1), (2, .int v2), (3, .int v3)] → W p l e ({ frames := 0, cells := 0, slots := 0, locals := 0 }) s m AR below meth c H locs 0 0 (MQ below (va_Qv (fun (_ : Unit) => True) (fun (_ : Unit) t => cf_At D A (wGr K h0 a0 r) t) A) AR s 0 0 A) (F0 m 5 ls []))
set_option maxHeartbeats 4000000 in
set_option maxRecDepth 100000 in
theorem bJArrays_fill_AII_Gr6_5 {p : Program} {l : Launch} {e : Env} {s : State} {m : MethodId} {below : List Frame} {meth : Method} {c : Code} {A : Nat → Prop} {D : va_G} {K : Nat → ClassId} {h0 : Nat} {a0 : Nat → Nat} {AR : Array Value} (C : (dc_C p s m AR meth c cJArrays_fill_AII 4 (Option.none : Option Jvm.ClassFile.FieldType) yJArrays_fill_AII ∧ cf_E D K A s s.heap ∧ ∀ q, s.heap.size ≤ q → A q)) {n : Nat} (ih : IhJArrays_fill_AII_Gr6 p l e s m below meth c A D K h0 a0 AR n) (v1 : Int32) (v2 : Int32) (v3 : Int32) (o0 : cf_O) (r : cf_O) (h : fJArrays_fill_AII_Gr6_5 (gJArrays_fill_AII_Gr6 n) v1 v2 v3 o0 = some r) {H : Heap} {locs : List Loc} {ls : Array Slot} (hP : va_P D vwCl (wGr K h0 a0 o0) H) (hD : va_D A (wGr K h0 a0 o0)) (hS : va_S A s.heap H locs) (hl : lv_has ls 4 [(0, .ref (a0 6)), (1, .int v1), (2, .int v2), (3, .int v3)]) : W p l e ({ frames := 0, cells := 0, slots := 0, locals := 0 }) s m AR below meth c H locs 0 0 (MQ below (va_Qv (fun (_ : Unit) => True) (fun (_ : Unit) t => cf_At D A (wGr K h0 a0 r) t) A) AR s 0 0 A) (F0 m 5 ls []) := by
  obtain ⟨⟨hx, hb, hr, hts, hown, hlocks, hin, hml⟩, hE, hA⟩ := id C
  have hK := hE.k
  refine lv_iload_n hx hb dJArrays_fill_AII_5 rfl (lv_at hl 2 rfl) ?_
  refine lv_iload_n hx hb dJArrays_fill_AII_6 rfl (lv_at hl 3 rfl) ?_
  refine lv_icmp_ge (tgt := 20) hx hb dJArrays_fill_AII_7 (by decide) (fun c_1 => ?_) (fun c_1 => ?_)
  · have h := op_t c_1 h
    obtain rfl := Option.some.inj h
    exact dc_vret hx hb hr hlocks rfl hP hD hS dJArrays_fill_AII_20
  · have h := op_f c_1 h
    refine lv_aload_n hx hb dJArrays_fill_AII_10 rfl (lv_at hl 0 rfl) ?_
    refine lv_iload_n hx hb dJArrays_fill_AII_11 rfl (lv_at hl 2 rfl) ?_
    refine lv_iload_n hx hb dJArrays_fill_AII_12 rfl (lv_at hl 1 rfl) ?_
    obtain ⟨hi_2, h⟩ := op_n h
    refine va_iast (D := D) hx hb hK hP hD hS 3 0 rfl rfl hi_2 dJArrays_fill_AII_13 (fun H locs hP hD hS => ?_)
    have hP : va_P D vwCl (wGr K h0 a0 (xp o0 6 v2.toNatClampNeg v1)) H := hP
    have hD : va_D A (wGr K h0 a0 (xp o0 6 v2.toNatClampNeg v1)) := hD
    obtain ⟨o_3, eo_3, h⟩ := op_kx h
    rw [← eo_3] at hP hD
    obtain ⟨x_4, ex_4⟩ : ∃ y : Int32, y = v2 + 1 := ⟨_, rfl⟩
    refine lv_iinc (v := x_4) (lv' := [(2, .int x_4), (0, .ref (a0 6)), (1, .int v1), (3, .int v3)]) hx hb dJArrays_fill_AII_14 hl (k := 2) rfl (by rw [ex_4]; rfl) (by decide) rfl (fun ls hl => ?_)
    have h := op_ks ex_4 h
    refine lv_goto (tgt := 5) hx hb dJArrays_fill_AII_17 (by decide) ?_
    exact (ih) _ _ _ _ _ h hP hD hS (lv_sub hl [1, 2, 0, 3] rfl)
set_option maxHeartbeats 4000000 in
set_option maxRecDepth 100000 in
theorem bJArrays_fill_AII_Gr6_0 {p : Program} {l : Launch} {e : Env} {s : State} {m : MethodId} {below : List Frame} {meth : Method} {c : Code} {A : Nat → Prop} {D : va_G} {K : Nat → ClassId} {h0 : Nat} {a0 : Nat → Nat} {AR : Array Value} (C : (dc_C p s m AR meth c cJArrays_fill_AII 4 (Option.none : Option Jvm.ClassFile.FieldType) yJArrays_fill_AII ∧ cf_E D K A s s.heap ∧ ∀ q, s.heap.size ≤ q → A q)) {n : Nat} (ih : IhJArrays_fill_AII_Gr6 p l e s m below meth c A D K h0 a0 AR n) (v1 : Int32) (o0 : cf_O) (r : cf_O) (h : fJArrays_fill_AII_Gr6_0 (gJArrays_fill_AII_Gr6 n) v1 o0 = some r) {H : Heap} {locs : List Loc} {ls : Array Slot} (hP : va_P D vwCl (wGr K h0 a0 o0) H) (hD : va_D A (wGr K h0 a0 o0)) (hS : va_S A s.heap H locs) (hl : lv_has ls 4 [(0, .ref (a0 6)), (1, .int v1)]) : W p l e ({ frames := 0, cells := 0, slots := 0, locals := 0 }) s m AR below meth c H locs 0 0 (MQ below (va_Qv (fun (_ : Unit) => True) (fun (_ : Unit) t => cf_At D A (wGr K h0 a0 r) t) A) AR s 0 0 A) (F0 m 0 ls []) := by
  obtain ⟨⟨hx, hb, hr, hts, hown, hlocks, hin, hml⟩, hE, hA⟩ := id C
  have hK := hE.k
  refine lv_iconst (v := 0) hx hb dJArrays_fill_AII_0 (by decide) ?_
  refine lv_istore_n (lv' := [(2, .int 0), (0, .ref (a0 6)), (1, .int v1)]) hx hb dJArrays_fill_AII_1 rfl hl (by decide) rfl (fun ls hl => ?_)
  refine lv_aload_n hx hb dJArrays_fill_AII_2 rfl (lv_at hl 1 rfl) ?_
  refine va_alen (D := D) (v := 209) hx hb hK hP 3 0 rfl rfl rfl dJArrays_fill_AII_3 ?_
  refine lv_istore_n (lv' := [(3, .int 209), (2, .int 0), (0, .ref (a0 6)), (1, .int v1)]) hx hb dJArrays_fill_AII_4 rfl hl (by decide) rfl (fun ls hl => ?_)
  exact (ih) _ _ _ _ _ h hP hD hS (lv_sub hl [2, 3, 1, 0] rfl)
theorem iJArrays_fill_AII_Gr6 {p : Program} {l : Launch} {e : Env} {s : State} {m : MethodId} {below : List Frame} {meth : Method} {c : Code} {A : Nat → Prop} {D : va_G} {K : Nat → ClassId} {h0 : Nat} {a0 : Nat → Nat} {AR : Array Value} (C : (dc_C p s m AR meth c cJArrays_fill_AII 4 (Option.none : Option Jvm.ClassFile.FieldType) yJArrays_fill_AII ∧ cf_E D K A s s.heap ∧ ∀ q, s.heap.size ≤ q → A q)) : ∀ n, IhJArrays_fill_AII_Gr6 p l e s m below meth c A D K h0 a0 AR n := by
  intro n
  induction n with
  | zero => exact (fun _ _ _ _ r h => by cases (show none = some r from h))
  | succ n ih => exact fun x0 x1 x2 x3 r h _ _ _ hP hD hS hl => bJArrays_fill_AII_Gr6_5 C ih x0 x1 x2 x3 r h hP hD hS hl
set_option maxRecDepth 100000 in
theorem mJArrays_fill_AII_Gr6 (l : Launch) (D : va_G) (K : Nat → ClassId) (sz : Nat) (v1 : Int32) (h0 : Nat) (a0 : Nat → Nat) (o0 : cf_O) (r : cf_O) (h : fJArrays_fill_AII_Gr6 v1 o0 = some r) : Met l yJArrays_fill_AII (Cond.code yJArrays_fill_AII cJArrays_fill_AII 4 (Option.none : Option Jvm.ClassFile.FieldType) :: cfB) ({ frames := 0, cells := 0, slots := 0, locals := 0 }) (va_Pc [.ref (a0 6), .int v1] (cf_Pre D K sz (wGr K h0 a0 o0))) (va_Qv (fun (_ : Unit) => True) (fun (_ : Unit) t => cf_At D (va_A (wGr K h0 a0 o0) sz) (wGr K h0 a0 r) t) (va_A (wGr K h0 a0 o0) sz)) 0 0 (va_A (wGr K h0 a0 o0) sz) := by
  refine cf_ofW (y := yJArrays_fill_AII) (As := [.ref (a0 6), .int v1]) (WS := wGr K h0 a0 o0) (maxL := 4) (fun A => (va_Qv (fun (_ : Unit) => True) (fun (_ : Unit) t => cf_At D A (wGr K h0 a0 r) t) A)) (by decide) (Nat.le_of_ble_eq_true rfl) ?_
  intro p e s m below meth c A ls En hsz hA hP hD hE hS hl
  have C : (dc_C p s m (([.ref (a0 6), .int v1] : List Value).toArray) meth c cJArrays_fill_AII 4 (Option.none : Option Jvm.ClassFile.FieldType) yJArrays_fill_AII ∧ cf_E D K A s s.heap ∧ ∀ q, s.heap.size ≤ q → A q) := ⟨En, hE, hA⟩
  exact bJArrays_fill_AII_Gr6_0 C (iJArrays_fill_AII_Gr6 C cfFU) v1 o0 r h hP hD hS hl
set_option maxHeartbeats 4000000 in
set_option maxRecDepth 100000 in
theorem bGr_restart_0 {p : Program} {l : Launch} {e : Env} {s : State} {m : MethodId} {below : List Frame} {meth : Method} {c : Code} {A : Nat → Prop} {D : va_G} {K : Nat → ClassId} {h0 : Nat} {a0 : Nat → Nat} {AR : Array Value} (C : (dc_C p s m AR meth c cGr_restart 3 (Option.none : Option Jvm.ClassFile.FieldType) yGr_restart ∧ cf_E D K A s s.heap ∧ ∀ q, s.heap.size ≤ q → A q)) (v1 : Int32) (v2 : Int32) (o0 : cf_O) (r : cf_O) (h : fGr_restart_0 v1 v2 o0 = some r) {H : Heap} {locs : List Loc} {ls : Array Slot} (hP : va_P D vwCl (wGr K h0 a0 o0) H) (hD : va_D A (wGr K h0 a0 o0)) (hS : va_S A s.heap H locs) (hl : lv_has ls 3 [(0, .ref h0), (1, .int v1), (2, .int v2)]) : W p l e ({ frames := 1, cells := 0, slots := 0, locals := 23 }) s m AR below meth c H locs 0 0 (MQ below (va_Qv (fun (_ : Unit) => True) (fun (_ : Unit) t => cf_At D A (wGr K h0 a0 r) t) A) AR s 0 0 A) (F0 m 0 ls []) := by
  obtain ⟨⟨hx, hb, hr, hts, hown, hlocks, hin, hml⟩, hE, hA⟩ := id C
  have hK := hE.k
  refine lv_aload_n hx hb dGr_restart_0 rfl (lv_at hl 0 rfl) ?_
  refine lv_iload_n hx hb dGr_restart_1 rfl (lv_at hl 1 rfl) ?_
  refine va_put (D := D) (ci := 3) (v := .int v1) (ty := .int) (C := RGr) (T := TGr) (N := 10) hx hb hts inGr tyGr tyokGr nmGr hown hK hP hD hS 0 rfl rfl 0 (by decide) (hts _ wv_546) (fun _ h9 => h9) rfl (by decide +kernel) rfl rfl (Nat.le_of_ble_eq_true rfl) dGr_restart_2 (fun H locs hP hD hS => ?_)
  have hP : va_P D vwCl (wGr K h0 a0 (fp o0 0 v1)) H := hP
  have hD : va_D A (wGr K h0 a0 (fp o0 0 v1)) := hD
  obtain ⟨o_1, eo_1, h⟩ := op_kx h
  rw [← eo_1] at hP hD
  refine lv_aload_n hx hb dGr_restart_5 rfl (lv_at hl 0 rfl) ?_
  refine lv_iload_n hx hb dGr_restart_6 rfl (lv_at hl 2 rfl) ?_
  refine va_put (D := D) (ci := 3) (v := .int v2) (ty := .int) (C := RGr) (T := TGr) (N := 10) hx hb hts inGr tyGr tyokGr nmGr hown hK hP hD hS 0 rfl rfl 1 (by decide) (hts _ wv_551) (fun _ h9 => h9) rfl (by decide +kernel) rfl rfl (Nat.le_of_ble_eq_true rfl) dGr_restart_7 (fun H locs hP hD hS => ?_)
  have hP : va_P D vwCl (wGr K h0 a0 (fp o_1 1 v2)) H := hP
  have hD : va_D A (wGr K h0 a0 (fp o_1 1 v2)) := hD
  obtain ⟨o_2, eo_2, h⟩ := op_kx h
  rw [← eo_2] at hP hD
  refine lv_aload_n hx hb dGr_restart_10 rfl (lv_at hl 0 rfl) ?_
  refine lv_iconst (v := 0) hx hb dGr_restart_11 (by decide) ?_
  refine va_put (D := D) (ci := 3) (v := .int 0) (ty := .int) (C := RGr) (T := TGr) (N := 10) hx hb hts inGr tyGr tyokGr nmGr hown hK hP hD hS 0 rfl rfl 2 (by decide) (hts _ wv_556) (fun _ h9 => h9) rfl (by decide +kernel) rfl rfl (Nat.le_of_ble_eq_true rfl) dGr_restart_12 (fun H locs hP hD hS => ?_)
  have hP : va_P D vwCl (wGr K h0 a0 (fp o_2 2 0)) H := hP
  have hD : va_D A (wGr K h0 a0 (fp o_2 2 0)) := hD
  obtain ⟨o_3, eo_3, h⟩ := op_kx h
  rw [← eo_3] at hP hD
  refine lv_aload_n hx hb dGr_restart_15 rfl (lv_at hl 0 rfl) ?_
  refine lv_iconst (v := 0) hx hb dGr_restart_16 (by decide) ?_
  refine va_put (D := D) (ci := 3) (v := .int 0) (ty := .boolean) (C := RGr) (T := TGr) (N := 10) hx hb hts inGr tyGr tyokGr nmGr hown hK hP hD hS 0 rfl rfl 3 (by decide) (hts _ wv_558) (fun _ h9 => h9) rfl (by decide +kernel) rfl rfl (Nat.le_of_ble_eq_true rfl) dGr_restart_17 (fun H locs hP hD hS => ?_)
  have hP : va_P D vwCl (wGr K h0 a0 (fp o_3 3 0)) H := hP
  have hD : va_D A (wGr K h0 a0 (fp o_3 3 0)) := hD
  obtain ⟨o_4, eo_4, h⟩ := op_kx h
  rw [← eo_4] at hP hD
  refine lv_aload_n hx hb dGr_restart_20 rfl (lv_at hl 0 rfl) ?_
  refine va_get (D := D) (ci := 3) (v := .ref (a0 8)) (C := RGr) (T := TGr) (N := 10) hx hb hts inGr hown hK hP 0 rfl rfl 8 (by decide) (hts _ wv_581) (fun _ h9 => h9) rfl dGr_restart_21 ?_
  refine lv_iconst (v := 0) hx hb dGr_restart_24 (by decide) ?_
  obtain ⟨q_5, hq_5, h⟩ := op_b h
  refine dc_callv (va_runS (As := [.ref (a0 8), .int 0]) (rest := []) ⟨hx, hb, hml, hown, hts⟩ (mJArrays_fill_AII_Gr8 l D K _ 0 h0 a0 o_4 _ hq_5) (va_cwS 2 hts (cf_GS wv_1040 wv_841 wv_181 wv_842) rfl rfl rfl (by decide +kernel) ⟨Nat.le_of_ble_eq_true rfl, Nat.le_of_ble_eq_true rfl⟩) (dc_preS hE hP hD hS hA) rfl rfl hl.1 rfl (lv_room (Nat.le_of_ble_eq_true rfl)) dGr_restart_25 ⟨Nat.le_of_ble_eq_true rfl, Nat.le_of_ble_eq_true rfl⟩) hP hD hS hA (fun H locs hP hD hS => ?_)
  refine lv_aload_n hx hb dGr_restart_28 rfl (lv_at hl 0 rfl) ?_
  refine va_get (D := D) (ci := 3) (v := .ref (a0 6)) (C := RGr) (T := TGr) (N := 10) hx hb hts inGr hown hK hP 0 rfl rfl 6 (by decide) (hts _ wv_572) (fun _ h9 => h9) rfl dGr_restart_29 ?_
  refine lv_iconst (v := 0) hx hb dGr_restart_32 (by decide) ?_
  obtain ⟨q_7, hq_7, h⟩ := op_b h
  refine dc_callv (va_runS (As := [.ref (a0 6), .int 0]) (rest := []) ⟨hx, hb, hml, hown, hts⟩ (mJArrays_fill_AII_Gr6 l D K _ 0 h0 a0 q_5 _ hq_7) (va_cwS 2 hts (cf_GS wv_1040 wv_841 wv_181 wv_842) rfl rfl rfl (by decide +kernel) ⟨Nat.le_of_ble_eq_true rfl, Nat.le_of_ble_eq_true rfl⟩) (dc_preS hE hP hD hS hA) rfl rfl hl.1 rfl (lv_room (Nat.le_of_ble_eq_true rfl)) dGr_restart_33 ⟨Nat.le_of_ble_eq_true rfl, Nat.le_of_ble_eq_true rfl⟩) hP hD hS hA (fun H locs hP hD hS => ?_)
  obtain rfl := Option.some.inj h
  exact dc_vret hx hb hr hlocks rfl hP hD hS dGr_restart_36
set_option maxRecDepth 100000 in
theorem mGr_restart (l : Launch) (D : va_G) (K : Nat → ClassId) (sz : Nat) (v1 : Int32) (v2 : Int32) (h0 : Nat) (a0 : Nat → Nat) (o0 : cf_O) (r : cf_O) (h : fGr_restart v1 v2 o0 = some r) : Met l yGr_restart (Cond.code yGr_restart cGr_restart 3 (Option.none : Option Jvm.ClassFile.FieldType) :: cfB) ({ frames := 1, cells := 0, slots := 0, locals := 23 }) (va_Pc [.ref h0, .int v1, .int v2] (cf_Pre D K sz (wGr K h0 a0 o0))) (va_Qv (fun (_ : Unit) => True) (fun (_ : Unit) t => cf_At D (va_A (wGr K h0 a0 o0) sz) (wGr K h0 a0 r) t) (va_A (wGr K h0 a0 o0) sz)) 0 0 (va_A (wGr K h0 a0 o0) sz) := by
  refine cf_ofW (y := yGr_restart) (As := [.ref h0, .int v1, .int v2]) (WS := wGr K h0 a0 o0) (maxL := 3) (fun A => (va_Qv (fun (_ : Unit) => True) (fun (_ : Unit) t => cf_At D A (wGr K h0 a0 r) t) A)) (by decide) (Nat.le_of_ble_eq_true rfl) ?_
  intro p e s m below meth c A ls En hsz hA hP hD hE hS hl
  have C : (dc_C p s m (([.ref h0, .int v1, .int v2] : List Value).toArray) meth c cGr_restart 3 (Option.none : Option Jvm.ClassFile.FieldType) yGr_restart ∧ cf_E D K A s s.heap ∧ ∀ q, s.heap.size ≤ q → A q) := ⟨En, hE, hA⟩
  exact bGr_restart_0 C v1 v2 o0 r h hP hD hS hl
def IhGr_greatestLevel (p : Program) (l : Launch) (e : Env) (s : State) (m : MethodId) (below : List Frame) (meth : Method) (c : Code) (A : Nat → Prop) (D : va_G) (K : Nat → ClassId) (h0 : Nat) (a0 : Nat → Nat) (AR : Array Value) (n : Nat) : Prop := (∀ (v1 : Int32) (v2 : Int32) (o0 : cf_O) (r : Int32), gGr_greatestLevel n 0 v1 v2 o0 = some r → ∀ {H : Heap} {locs : List Loc} {ls : Array Slot}, (va_P D vwCl (wGr K h0 a0 o0) H) → (va_D A (wGr K h0 a0 o0)) → va_S A s.heap H locs → lv_has ls 3 [(0, .ref h0), (1, .int v1), (2, .int v2)] → W p l e ({ frames := 1, cells := 0, slots := 0, locals := 34 }) s m AR below meth c H locs 0 0 (MQ below (va_Qi (fun (x : Int32) (_ : Unit) => x = r) (fun (_ : Unit) t => cf_At D A (wGr K h0 a0 o0) t) A) AR s 0 0 A) (F0 m 4 ls []))
set_option maxHeartbeats 4000000 in
set_option maxRecDepth 100000 in
theorem bGr_greatestLevel_4 {p : Program} {l : Launch} {e : Env} {s : State} {m : MethodId} {below : List Frame} {meth : Method} {c : Code} {A : Nat → Prop} {D : va_G} {K : Nat → ClassId} {h0 : Nat} {a0 : Nat → Nat} {AR : Array Value} (C : (dc_C p s m AR meth c cGr_greatestLevel 3 (Option.some Jvm.ClassFile.FieldType.int) yGr_greatestLevel ∧ cf_E D K A s s.heap ∧ ∀ q, s.heap.size ≤ q → A q)) {n : Nat} (ih : IhGr_greatestLevel p l e s m below meth c A D K h0 a0 AR n) (v1 : Int32) (v2 : Int32) (o0 : cf_O) (r : Int32) (h : fGr_greatestLevel_4 (gGr_greatestLevel n) v1 v2 o0 = some r) {H : Heap} {locs : List Loc} {ls : Array Slot} (hP : va_P D vwCl (wGr K h0 a0 o0) H) (hD : va_D A (wGr K h0 a0 o0)) (hS : va_S A s.heap H locs) (hl : lv_has ls 3 [(0, .ref h0), (1, .int v1), (2, .int v2)]) : W p l e ({ frames := 1, cells := 0, slots := 0, locals := 34 }) s m AR below meth c H locs 0 0 (MQ below (va_Qi (fun (x : Int32) (_ : Unit) => x = r) (fun (_ : Unit) t => cf_At D A (wGr K h0 a0 o0) t) A) AR s 0 0 A) (F0 m 4 ls []) := by
  obtain ⟨⟨hx, hb, hr, hts, hown, hlocks, hin, hml⟩, hE, hA⟩ := id C
  have hK := hE.k
  refine lv_iload_n hx hb dGr_greatestLevel_4 rfl (lv_at hl 2 rfl) ?_
  refine lv_aload_n hx hb dGr_greatestLevel_5 rfl (lv_at hl 0 rfl) ?_
  refine va_get (D := D) (ci := 3) (v := .int (o0.1 1)) (C := RGr) (T := TGr) (N := 10) hx hb hts inGr hown hK hP 0 rfl rfl 1 (by decide) (hts _ wv_551) (fun _ h9 => h9) rfl dGr_greatestLevel_6 ?_
  refine lv_icmp_ge (tgt := 36) hx hb dGr_greatestLevel_9 (by decide) (fun c_1 => ?_) (fun c_1 => ?_)
  · have h := op_t c_1 h
    refine lv_iload_n hx hb dGr_greatestLevel_36 rfl (lv_at hl 1 rfl) ?_
    obtain rfl := Option.some.inj h
    exact dc_iret hx hb hr hlocks rfl hP hD hS dGr_greatestLevel_37
  · have h := op_f c_1 h
    refine lv_iload_n hx hb dGr_greatestLevel_12 rfl (lv_at hl 1 rfl) ?_
    refine lv_aload_n hx hb dGr_greatestLevel_13 rfl (lv_at hl 0 rfl) ?_
    refine va_get (D := D) (ci := 3) (v := .ref (a0 6)) (C := RGr) (T := TGr) (N := 10) hx hb hts inGr hown hK hP 0 rfl rfl 6 (by decide) (hts _ wv_572) (fun _ h9 => h9) rfl dGr_greatestLevel_14 ?_
    refine lv_aload_n hx hb dGr_greatestLevel_17 rfl (lv_at hl 0 rfl) ?_
    refine va_get (D := D) (ci := 3) (v := .ref (a0 7)) (C := RGr) (T := TGr) (N := 10) hx hb hts inGr hown hK hP 0 rfl rfl 7 (by decide) (hts _ wv_575) (fun _ h9 => h9) rfl dGr_greatestLevel_18 ?_
    refine lv_iload_n hx hb dGr_greatestLevel_21 rfl (lv_at hl 2 rfl) ?_
    obtain ⟨hi_2, h⟩ := op_n h
    refine va_iald (D := D) hx hb hK hP 4 0 rfl rfl hi_2 dGr_greatestLevel_22 ?_
    refine lv_topi (fun x_3 ex_3 => ?_)
    have h := op_ks ex_3 h
    refine lv_iconst (v := 1) hx hb dGr_greatestLevel_23 (by decide) ?_
    refine lv_ishr hx hb dGr_greatestLevel_24 ?_
    refine lv_topi (fun x_4 ex_4 => ?_)
    have h := op_ks ex_4 h
    obtain ⟨hi_5, h⟩ := op_n h
    refine va_iald (D := D) hx hb hK hP 3 0 rfl rfl hi_5 dGr_greatestLevel_25 ?_
    refine lv_topi (fun x_6 ex_6 => ?_)
    have h := op_ks ex_6 h
    refine va_mmax (x := v1) (y := x_6) hx hb (hml.trans hl.1.symm) hown (hts _ wv_1061) (hts _ wv_1062) (hts _ wv_182) (hts _ wv_1063) (Nat.le_of_ble_eq_true rfl) (Nat.le_of_ble_eq_true rfl) (Nat.le_of_ble_eq_true rfl) (Nat.le_of_ble_eq_true rfl) dGr_greatestLevel_26 ?_
    refine lv_topi (fun x_7 ex_7 => ?_)
    have h := op_ks ex_7 h
    refine lv_istore_n (lv' := [(1, .int x_7), (0, .ref h0), (2, .int v2)]) hx hb dGr_greatestLevel_29 rfl hl (by decide) rfl (fun ls hl => ?_)
    obtain ⟨x_8, ex_8⟩ : ∃ y : Int32, y = v2 + 1 := ⟨_, rfl⟩
    refine lv_iinc (v := x_8) (lv' := [(2, .int x_8), (1, .int x_7), (0, .ref h0)]) hx hb dGr_greatestLevel_30 hl (k := 2) rfl (by rw [ex_8]; rfl) (by decide) rfl (fun ls hl => ?_)
    have h := op_ks ex_8 h
    refine lv_goto (tgt := 4) hx hb dGr_greatestLevel_33 (by decide) ?_
    exact (ih) _ _ _ _ h hP hD hS (lv_sub hl [2, 1, 0] rfl)
set_option maxHeartbeats 4000000 in
set_option maxRecDepth 100000 in
theorem bGr_greatestLevel_0 {p : Program} {l : Launch} {e : Env} {s : State} {m : MethodId} {below : List Frame} {meth : Method} {c : Code} {A : Nat → Prop} {D : va_G} {K : Nat → ClassId} {h0 : Nat} {a0 : Nat → Nat} {AR : Array Value} (C : (dc_C p s m AR meth c cGr_greatestLevel 3 (Option.some Jvm.ClassFile.FieldType.int) yGr_greatestLevel ∧ cf_E D K A s s.heap ∧ ∀ q, s.heap.size ≤ q → A q)) {n : Nat} (ih : IhGr_greatestLevel p l e s m below meth c A D K h0 a0 AR n) (o0 : cf_O) (r : Int32) (h : fGr_greatestLevel_0 (gGr_greatestLevel n) o0 = some r) {H : Heap} {locs : List Loc} {ls : Array Slot} (hP : va_P D vwCl (wGr K h0 a0 o0) H) (hD : va_D A (wGr K h0 a0 o0)) (hS : va_S A s.heap H locs) (hl : lv_has ls 3 [(0, .ref h0)]) : W p l e ({ frames := 1, cells := 0, slots := 0, locals := 34 }) s m AR below meth c H locs 0 0 (MQ below (va_Qi (fun (x : Int32) (_ : Unit) => x = r) (fun (_ : Unit) t => cf_At D A (wGr K h0 a0 o0) t) A) AR s 0 0 A) (F0 m 0 ls []) := by
  obtain ⟨⟨hx, hb, hr, hts, hown, hlocks, hin, hml⟩, hE, hA⟩ := id C
  have hK := hE.k
  refine lv_iconst (v := 0) hx hb dGr_greatestLevel_0 (by decide) ?_
  refine lv_istore_n (lv' := [(1, .int 0), (0, .ref h0)]) hx hb dGr_greatestLevel_1 rfl hl (by decide) rfl (fun ls hl => ?_)
  refine lv_iconst (v := 0) hx hb dGr_greatestLevel_2 (by decide) ?_
  refine lv_istore_n (lv' := [(2, .int 0), (1, .int 0), (0, .ref h0)]) hx hb dGr_greatestLevel_3 rfl hl (by decide) rfl (fun ls hl => ?_)
  exact (ih) _ _ _ _ h hP hD hS (lv_sub hl [2, 1, 0] rfl)
theorem iGr_greatestLevel {p : Program} {l : Launch} {e : Env} {s : State} {m : MethodId} {below : List Frame} {meth : Method} {c : Code} {A : Nat → Prop} {D : va_G} {K : Nat → ClassId} {h0 : Nat} {a0 : Nat → Nat} {AR : Array Value} (C : (dc_C p s m AR meth c cGr_greatestLevel 3 (Option.some Jvm.ClassFile.FieldType.int) yGr_greatestLevel ∧ cf_E D K A s s.heap ∧ ∀ q, s.heap.size ≤ q → A q)) : ∀ n, IhGr_greatestLevel p l e s m below meth c A D K h0 a0 AR n := by
  intro n
  induction n with
  | zero => exact (fun _ _ _ r h => by cases (show none = some r from h))
  | succ n ih => exact fun x0 x1 x2 r h _ _ _ hP hD hS hl => bGr_greatestLevel_4 C ih x0 x1 x2 r h hP hD hS hl
set_option maxRecDepth 100000 in
theorem mGr_greatestLevel (l : Launch) (D : va_G) (K : Nat → ClassId) (sz : Nat) (h0 : Nat) (a0 : Nat → Nat) (o0 : cf_O) (r : Int32) (h : fGr_greatestLevel o0 = some r) : Met l yGr_greatestLevel (Cond.code yGr_greatestLevel cGr_greatestLevel 3 (Option.some Jvm.ClassFile.FieldType.int) :: cfB) ({ frames := 1, cells := 0, slots := 0, locals := 34 }) (va_Pc [.ref h0] (cf_Pre D K sz (wGr K h0 a0 o0))) (va_Qi (fun (x : Int32) (_ : Unit) => x = r) (fun (_ : Unit) t => cf_At D (va_A (wGr K h0 a0 o0) sz) (wGr K h0 a0 o0) t) (va_A (wGr K h0 a0 o0) sz)) 0 0 (va_A (wGr K h0 a0 o0) sz) := by
  refine cf_ofW (y := yGr_greatestLevel) (As := [.ref h0]) (WS := wGr K h0 a0 o0) (maxL := 3) (fun A => (va_Qi (fun (x : Int32) (_ : Unit) => x = r) (fun (_ : Unit) t => cf_At D A (wGr K h0 a0 o0) t) A)) (by decide) (Nat.le_of_ble_eq_true rfl) ?_
  intro p e s m below meth c A ls En hsz hA hP hD hE hS hl
  have C : (dc_C p s m (([.ref h0] : List Value).toArray) meth c cGr_greatestLevel 3 (Option.some Jvm.ClassFile.FieldType.int) yGr_greatestLevel ∧ cf_E D K A s s.heap ∧ ∀ q, s.heap.size ≤ q → A q) := ⟨En, hE, hA⟩
  exact bGr_greatestLevel_0 C (iGr_greatestLevel C cfFU) o0 r h hP hD hS hl
def IhGr_gateThere (p : Program) (l : Launch) (e : Env) (s : State) (m : MethodId) (below : List Frame) (meth : Method) (c : Code) (A : Nat → Prop) (D : va_G) (K : Nat → ClassId) (h0 : Nat) (a0 : Nat → Nat) (AR : Array Value) (n : Nat) : Prop := (∀ (v2 : Int32) (v3 : Int32) (v4 : Int32) (o0 : cf_O) (r : Int32), gGr_gateThere n 0 v2 v3 v4 o0 = some r → ∀ {H : Heap} {locs : List Loc} {ls : Array Slot}, (va_P D vwCl (wGr K h0 a0 o0) H) → (va_D A (wGr K h0 a0 o0)) → va_S A s.heap H locs → lv_has ls 5 [(0, .ref h0), (2, .int v2), (3, .int v3), (4, .int v4)] → W p l e ({ frames := 0, cells := 0, slots := 0, locals := 0 }) s m AR below meth c H locs 0 0 (MQ below (va_Qi (fun (x : Int32) (_ : Unit) => x = r) (fun (_ : Unit) t => cf_At D A (wGr K h0 a0 o0) t) A) AR s 0 0 A) (F0 m 10 ls []))
set_option maxHeartbeats 4000000 in
set_option maxRecDepth 100000 in
theorem bGr_gateThere_45 {p : Program} {l : Launch} {e : Env} {s : State} {m : MethodId} {below : List Frame} {meth : Method} {c : Code} {A : Nat → Prop} {D : va_G} {K : Nat → ClassId} {h0 : Nat} {a0 : Nat → Nat} {AR : Array Value} (C : (dc_C p s m AR meth c cGr_gateThere 5 (Option.some Jvm.ClassFile.FieldType.int) yGr_gateThere ∧ cf_E D K A s s.heap ∧ ∀ q, s.heap.size ≤ q → A q)) {n : Nat} (ih : IhGr_gateThere p l e s m below meth c A D K h0 a0 AR n) (v3 : Int32) (o0 : cf_O) (r : Int32) (h : fGr_gateThere_45 (gGr_gateThere n) v3 o0 = some r) {H : Heap} {locs : List Loc} {ls : Array Slot} (hP : va_P D vwCl (wGr K h0 a0 o0) H) (hD : va_D A (wGr K h0 a0 o0)) (hS : va_S A s.heap H locs) (hl : lv_has ls 5 [(3, .int v3)]) : W p l e ({ frames := 0, cells := 0, slots := 0, locals := 0 }) s m AR below meth c H locs 0 0 (MQ below (va_Qi (fun (x : Int32) (_ : Unit) => x = r) (fun (_ : Unit) t => cf_At D A (wGr K h0 a0 o0) t) A) AR s 0 0 A) (F0 m 45 ls []) := by
  obtain ⟨⟨hx, hb, hr, hts, hown, hlocks, hin, hml⟩, hE, hA⟩ := id C
  have hK := hE.k
  refine lv_iload_n hx hb dGr_gateThere_45 rfl (lv_at hl 0 rfl) ?_
  obtain rfl := Option.some.inj h
  exact dc_iret hx hb hr hlocks rfl hP hD hS dGr_gateThere_46
set_option maxHeartbeats 4000000 in
set_option maxRecDepth 100000 in
theorem bGr_gateThere_10 {p : Program} {l : Launch} {e : Env} {s : State} {m : MethodId} {below : List Frame} {meth : Method} {c : Code} {A : Nat → Prop} {D : va_G} {K : Nat → ClassId} {h0 : Nat} {a0 : Nat → Nat} {AR : Array Value} (C : (dc_C p s m AR meth c cGr_gateThere 5 (Option.some Jvm.ClassFile.FieldType.int) yGr_gateThere ∧ cf_E D K A s s.heap ∧ ∀ q, s.heap.size ≤ q → A q)) {n : Nat} (ih : IhGr_gateThere p l e s m below meth c A D K h0 a0 AR n) (v2 : Int32) (v3 : Int32) (v4 : Int32) (o0 : cf_O) (r : Int32) (h : fGr_gateThere_10 (gGr_gateThere n) v2 v3 v4 o0 = some r) {H : Heap} {locs : List Loc} {ls : Array Slot} (hP : va_P D vwCl (wGr K h0 a0 o0) H) (hD : va_D A (wGr K h0 a0 o0)) (hS : va_S A s.heap H locs) (hl : lv_has ls 5 [(0, .ref h0), (2, .int v2), (3, .int v3), (4, .int v4)]) : W p l e ({ frames := 0, cells := 0, slots := 0, locals := 0 }) s m AR below meth c H locs 0 0 (MQ below (va_Qi (fun (x : Int32) (_ : Unit) => x = r) (fun (_ : Unit) t => cf_At D A (wGr K h0 a0 o0) t) A) AR s 0 0 A) (F0 m 10 ls []) := by
  obtain ⟨⟨hx, hb, hr, hts, hown, hlocks, hin, hml⟩, hE, hA⟩ := id C
  have hK := hE.k
  refine lv_iload hx hb dGr_gateThere_10 (lv_at hl 3 rfl) ?_
  refine lv_sipush (v := 200) hx hb dGr_gateThere_12 (by decide) ?_
  refine lv_icmp_ge (tgt := 45) hx hb dGr_gateThere_15 (by decide) (fun c_1 => ?_) (fun c_1 => ?_)
  · have h := op_t c_1 h
    exact bGr_gateThere_45 C ih _ _ _ h hP hD hS (lv_sub hl [2] rfl)
  · have h := op_f c_1 h
    refine lv_iload_n hx hb dGr_gateThere_18 rfl (lv_at hl 2 rfl) ?_
    refine lv_if_eq (tgt := 45) hx hb dGr_gateThere_19 (by decide) (fun c_2 => ?_) (fun c_2 => ?_)
    · have h := op_t c_2 h
      exact bGr_gateThere_45 C ih _ _ _ h hP hD hS (lv_sub hl [2] rfl)
    · have h := op_f c_2 h
      refine lv_aload_n hx hb dGr_gateThere_22 rfl (lv_at hl 0 rfl) ?_
      refine va_get (D := D) (ci := 3) (v := .ref (a0 5)) (C := RGr) (T := TGr) (N := 10) hx hb hts inGr hown hK hP 0 rfl rfl 5 (by decide) (hts _ wv_566) (fun _ h9 => h9) rfl dGr_gateThere_23 ?_
      refine lv_iload_n hx hb dGr_gateThere_26 rfl (lv_at hl 2 rfl) ?_
      obtain ⟨hi_3, h⟩ := op_n h
      refine va_iald (D := D) hx hb hK hP 2 0 rfl rfl hi_3 dGr_gateThere_27 ?_
      refine lv_topi (fun x_4 ex_4 => ?_)
      have h := op_ks ex_4 h
      refine lv_iload_n hx hb dGr_gateThere_28 rfl (lv_at hl 1 rfl) ?_
      refine lv_icmp_eq (tgt := 45) hx hb dGr_gateThere_29 (by decide) (fun c_5 => ?_) (fun c_5 => ?_)
      · have h := op_t c_5 h
        exact bGr_gateThere_45 C ih _ _ _ h hP hD hS (lv_sub hl [2] rfl)
      · have h := op_f c_5 h
        refine lv_aload_n hx hb dGr_gateThere_32 rfl (lv_at hl 0 rfl) ?_
        refine va_get (D := D) (ci := 3) (v := .ref (a0 9)) (C := RGr) (T := TGr) (N := 10) hx hb hts inGr hown hK hP 0 rfl rfl 9 (by decide) (hts _ wv_582) (fun _ h9 => h9) rfl dGr_gateThere_33 ?_
        refine lv_iload_n hx hb dGr_gateThere_36 rfl (lv_at hl 2 rfl) ?_
        obtain ⟨hi_6, h⟩ := op_n h
        refine va_iald (D := D) hx hb hK hP 6 0 rfl rfl hi_6 dGr_gateThere_37 ?_
        refine lv_topi (fun x_7 ex_7 => ?_)
        have h := op_ks ex_7 h
        refine lv_istore_n (lv' := [(3, .int x_7), (0, .ref h0), (2, .int v2), (4, .int v4)]) hx hb dGr_gateThere_38 rfl hl (by decide) rfl (fun ls hl => ?_)
        obtain ⟨x_8, ex_8⟩ : ∃ y : Int32, y = v4 + 1 := ⟨_, rfl⟩
        refine lv_iinc (v := x_8) (lv' := [(4, .int x_8), (3, .int x_7), (0, .ref h0), (2, .int v2)]) hx hb dGr_gateThere_39 hl (k := 3) rfl (by rw [ex_8]; rfl) (by decide) rfl (fun ls hl => ?_)
        have h := op_ks ex_8 h
        refine lv_goto (tgt := 10) hx hb dGr_gateThere_42 (by decide) ?_
        exact (ih) _ _ _ _ _ h hP hD hS (lv_sub hl [2, 3, 1, 0] rfl)
set_option maxHeartbeats 4000000 in
set_option maxRecDepth 100000 in
theorem bGr_gateThere_0 {p : Program} {l : Launch} {e : Env} {s : State} {m : MethodId} {below : List Frame} {meth : Method} {c : Code} {A : Nat → Prop} {D : va_G} {K : Nat → ClassId} {h0 : Nat} {a0 : Nat → Nat} {AR : Array Value} (C : (dc_C p s m AR meth c cGr_gateThere 5 (Option.some Jvm.ClassFile.FieldType.int) yGr_gateThere ∧ cf_E D K A s s.heap ∧ ∀ q, s.heap.size ≤ q → A q)) {n : Nat} (ih : IhGr_gateThere p l e s m below meth c A D K h0 a0 AR n) (v1 : Int32) (v2 : Int32) (o0 : cf_O) (r : Int32) (h : fGr_gateThere_0 (gGr_gateThere n) v1 v2 o0 = some r) {H : Heap} {locs : List Loc} {ls : Array Slot} (hP : va_P D vwCl (wGr K h0 a0 o0) H) (hD : va_D A (wGr K h0 a0 o0)) (hS : va_S A s.heap H locs) (hl : lv_has ls 5 [(0, .ref h0), (1, .int v1), (2, .int v2)]) : W p l e ({ frames := 0, cells := 0, slots := 0, locals := 0 }) s m AR below meth c H locs 0 0 (MQ below (va_Qi (fun (x : Int32) (_ : Unit) => x = r) (fun (_ : Unit) t => cf_At D A (wGr K h0 a0 o0) t) A) AR s 0 0 A) (F0 m 0 ls []) := by
  obtain ⟨⟨hx, hb, hr, hts, hown, hlocks, hin, hml⟩, hE, hA⟩ := id C
  have hK := hE.k
  refine lv_aload_n hx hb dGr_gateThere_0 rfl (lv_at hl 0 rfl) ?_
  refine va_get (D := D) (ci := 3) (v := .ref (a0 8)) (C := RGr) (T := TGr) (N := 10) hx hb hts inGr hown hK hP 0 rfl rfl 8 (by decide) (hts _ wv_581) (fun _ h9 => h9) rfl dGr_gateThere_1 ?_
  refine lv_iload_n hx hb dGr_gateThere_4 rfl (lv_at hl 1 rfl) ?_
  obtain ⟨hi_1, h⟩ := op_n h
  refine va_iald (D := D) hx hb hK hP 5 0 rfl rfl hi_1 dGr_gateThere_5 ?_
  refine lv_topi (fun x_2 ex_2 => ?_)
  have h := op_ks ex_2 h
  refine lv_istore_n (lv' := [(3, .int x_2), (0, .ref h0), (1, .int v1), (2, .int v2)]) hx hb dGr_gateThere_6 rfl hl (by decide) rfl (fun ls hl => ?_)
  refine lv_iconst (v := 0) hx hb dGr_gateThere_7 (by decide) ?_
  refine lv_istore (lv' := [(4, .int 0), (3, .int x_2), (0, .ref h0), (1, .int v1), (2, .int v2)]) hx hb dGr_gateThere_8 hl (by decide) rfl (fun ls hl => ?_)
  exact (ih) _ _ _ _ _ h hP hD hS (lv_sub hl [2, 4, 1, 0] rfl)
theorem iGr_gateThere {p : Program} {l : Launch} {e : Env} {s : State} {m : MethodId} {below : List Frame} {meth : Method} {c : Code} {A : Nat → Prop} {D : va_G} {K : Nat → ClassId} {h0 : Nat} {a0 : Nat → Nat} {AR : Array Value} (C : (dc_C p s m AR meth c cGr_gateThere 5 (Option.some Jvm.ClassFile.FieldType.int) yGr_gateThere ∧ cf_E D K A s s.heap ∧ ∀ q, s.heap.size ≤ q → A q)) : ∀ n, IhGr_gateThere p l e s m below meth c A D K h0 a0 AR n := by
  intro n
  induction n with
  | zero => exact (fun _ _ _ _ r h => by cases (show none = some r from h))
  | succ n ih => exact fun x0 x1 x2 x3 r h _ _ _ hP hD hS hl => bGr_gateThere_10 C ih x0 x1 x2 x3 r h hP hD hS hl
set_option maxRecDepth 100000 in
theorem mGr_gateThere (l : Launch) (D : va_G) (K : Nat → ClassId) (sz : Nat) (v1 : Int32) (v2 : Int32) (h0 : Nat) (a0 : Nat → Nat) (o0 : cf_O) (r : Int32) (h : fGr_gateThere v1 v2 o0 = some r) : Met l yGr_gateThere (Cond.code yGr_gateThere cGr_gateThere 5 (Option.some Jvm.ClassFile.FieldType.int) :: cfB) ({ frames := 0, cells := 0, slots := 0, locals := 0 }) (va_Pc [.ref h0, .int v1, .int v2] (cf_Pre D K sz (wGr K h0 a0 o0))) (va_Qi (fun (x : Int32) (_ : Unit) => x = r) (fun (_ : Unit) t => cf_At D (va_A (wGr K h0 a0 o0) sz) (wGr K h0 a0 o0) t) (va_A (wGr K h0 a0 o0) sz)) 0 0 (va_A (wGr K h0 a0 o0) sz) := by
  refine cf_ofW (y := yGr_gateThere) (As := [.ref h0, .int v1, .int v2]) (WS := wGr K h0 a0 o0) (maxL := 5) (fun A => (va_Qi (fun (x : Int32) (_ : Unit) => x = r) (fun (_ : Unit) t => cf_At D A (wGr K h0 a0 o0) t) A)) (by decide) (Nat.le_of_ble_eq_true rfl) ?_
  intro p e s m below meth c A ls En hsz hA hP hD hE hS hl
  have C : (dc_C p s m (([.ref h0, .int v1, .int v2] : List Value).toArray) meth c cGr_gateThere 5 (Option.some Jvm.ClassFile.FieldType.int) yGr_gateThere ∧ cf_E D K A s s.heap ∧ ∀ q, s.heap.size ≤ q → A q) := ⟨En, hE, hA⟩
  exact bGr_gateThere_0 C (iGr_gateThere C cfFU) v1 v2 o0 r h hP hD hS hl
set_option maxHeartbeats 4000000 in
set_option maxRecDepth 100000 in
theorem bGr_newGate_0 {p : Program} {l : Launch} {e : Env} {s : State} {m : MethodId} {below : List Frame} {meth : Method} {c : Code} {A : Nat → Prop} {D : va_G} {K : Nat → ClassId} {h0 : Nat} {a0 : Nat → Nat} {AR : Array Value} (C : (dc_C p s m AR meth c cGr_newGate 4 (Option.some Jvm.ClassFile.FieldType.int) yGr_newGate ∧ cf_E D K A s s.heap ∧ ∀ q, s.heap.size ≤ q → A q)) (v1 : Int32) (v2 : Int32) (o0 : cf_O) (r : Int32 × cf_O) (h : fGr_newGate_0 v1 v2 o0 = some r) {H : Heap} {locs : List Loc} {ls : Array Slot} (hP : va_P D vwCl (wGr K h0 a0 o0) H) (hD : va_D A (wGr K h0 a0 o0)) (hS : va_S A s.heap H locs) (hl : lv_has ls 4 [(0, .ref h0), (1, .int v1), (2, .int v2)]) : W p l e ({ frames := 1, cells := 0, slots := 0, locals := 34 }) s m AR below meth c H locs 0 0 (MQ below (va_Qi (fun (x : Int32) (_ : Unit) => x = r.1) (fun (_ : Unit) t => cf_At D A (wGr K h0 a0 r.2) t) A) AR s 0 0 A) (F0 m 0 ls []) := by
  obtain ⟨⟨hx, hb, hr, hts, hown, hlocks, hin, hml⟩, hE, hA⟩ := id C
  have hK := hE.k
  refine lv_aload_n hx hb dGr_newGate_0 rfl (lv_at hl 0 rfl) ?_
  refine va_get (D := D) (ci := 3) (v := .int (o0.1 2)) (C := RGr) (T := TGr) (N := 10) hx hb hts inGr hown hK hP 0 rfl rfl 2 (by decide) (hts _ wv_556) (fun _ h9 => h9) rfl dGr_newGate_1 ?_
  refine lv_sipush (v := 200) hx hb dGr_newGate_4 (by decide) ?_
  refine lv_icmp_ne (tgt := 17) hx hb dGr_newGate_7 (by decide) (fun c_1 => ?_) (fun c_1 => ?_)
  · have h := op_f c_1 h
    refine lv_aload_n hx hb dGr_newGate_17 rfl (lv_at hl 0 rfl) ?_
    obtain ⟨q_2, hq_2, h⟩ := op_b h
    refine dc_calli (va_runV (As := []) (rest := []) ⟨hx, hb, hml, hown, hts⟩ (mGr_size l D K _ h0 a0 o0 _ hq_2) (cwV 0 hts (cf_GV wv_1072 wv_1073 wv_1074 wv_171 wv_1075) rfl rfl rfl (by decide +kernel) ⟨Nat.le_of_ble_eq_true rfl, Nat.le_of_ble_eq_true rfl⟩) (dc_preV hE hP hD hS hA rfl 0 rfl) rfl rfl hl.1 rfl (lv_room (Nat.le_of_ble_eq_true rfl)) dGr_newGate_18 ⟨Nat.le_of_ble_eq_true rfl, Nat.le_of_ble_eq_true rfl⟩) hP hD hS hA (fun r_3 H locs hw_4 hP hD hS => ?_)
    subst r_3
    refine lv_istore_n (lv' := [(3, .int q_2), (0, .ref h0), (1, .int v1), (2, .int v2)]) hx hb dGr_newGate_21 rfl hl (by decide) rfl (fun ls hl => ?_)
    refine lv_aload_n hx hb dGr_newGate_22 rfl (lv_at hl 1 rfl) ?_
    refine lv_dup hx hb dGr_newGate_23 rfl ?_
    refine va_get (D := D) (ci := 3) (v := .int (o0.1 2)) (C := RGr) (T := TGr) (N := 10) hx hb hts inGr hown hK hP 0 rfl rfl 2 (by decide) (hts _ wv_556) (fun _ h9 => h9) rfl dGr_newGate_24 ?_
    refine lv_iconst (v := 1) hx hb dGr_newGate_27 (by decide) ?_
    refine lv_iadd hx hb dGr_newGate_28 ?_
    refine lv_topi (fun x_5 ex_5 => ?_)
    have h := op_ks ex_5 h
    refine va_put (D := D) (ci := 3) (v := .int x_5) (ty := .int) (C := RGr) (T := TGr) (N := 10) hx hb hts inGr tyGr tyokGr nmGr hown hK hP hD hS 0 rfl rfl 2 (by decide) (hts _ wv_556) (fun _ h9 => h9) rfl (by decide +kernel) rfl rfl (Nat.le_of_ble_eq_true rfl) dGr_newGate_29 (fun H locs hP hD hS => ?_)
    have hP : va_P D vwCl (wGr K h0 a0 (fp o0 2 x_5)) H := hP
    have hD : va_D A (wGr K h0 a0 (fp o0 2 x_5)) := hD
    obtain ⟨o_6, eo_6, h⟩ := op_kx h
    rw [← eo_6] at hP hD
    refine lv_aload_n hx hb dGr_newGate_32 rfl (lv_at hl 1 rfl) ?_
    refine va_get (D := D) (ci := 3) (v := .ref (a0 4)) (C := RGr) (T := TGr) (N := 10) hx hb hts inGr hown hK hP 0 rfl rfl 4 (by decide) (hts _ wv_560) (fun _ h9 => h9) rfl dGr_newGate_33 ?_
    refine lv_iload_n hx hb dGr_newGate_36 rfl (lv_at hl 0 rfl) ?_
    refine lv_iload_n hx hb dGr_newGate_37 rfl (lv_at hl 2 rfl) ?_
    obtain ⟨hi_7, h⟩ := op_n h
    refine va_iast (D := D) hx hb hK hP hD hS 1 0 rfl rfl hi_7 dGr_newGate_38 (fun H locs hP hD hS => ?_)
    have hP : va_P D vwCl (wGr K h0 a0 (xp o_6 4 q_2.toNatClampNeg v1)) H := hP
    have hD : va_D A (wGr K h0 a0 (xp o_6 4 q_2.toNatClampNeg v1)) := hD
    obtain ⟨o_8, eo_8, h⟩ := op_kx h
    rw [← eo_8] at hP hD
    refine lv_aload_n hx hb dGr_newGate_39 rfl (lv_at hl 1 rfl) ?_
    refine va_get (D := D) (ci := 3) (v := .ref (a0 5)) (C := RGr) (T := TGr) (N := 10) hx hb hts inGr hown hK hP 0 rfl rfl 5 (by decide) (hts _ wv_566) (fun _ h9 => h9) rfl dGr_newGate_40 ?_
    refine lv_iload_n hx hb dGr_newGate_43 rfl (lv_at hl 0 rfl) ?_
    refine lv_iload_n hx hb dGr_newGate_44 rfl (lv_at hl 3 rfl) ?_
    obtain ⟨hi_9, h⟩ := op_n h
    refine va_iast (D := D) hx hb hK hP hD hS 2 0 rfl rfl hi_9 dGr_newGate_45 (fun H locs hP hD hS => ?_)
    have hP : va_P D vwCl (wGr K h0 a0 (xp o_8 5 q_2.toNatClampNeg v2)) H := hP
    have hD : va_D A (wGr K h0 a0 (xp o_8 5 q_2.toNatClampNeg v2)) := hD
    obtain ⟨o_10, eo_10, h⟩ := op_kx h
    rw [← eo_10] at hP hD
    refine lv_aload_n hx hb dGr_newGate_46 rfl (lv_at hl 1 rfl) ?_
    refine va_get (D := D) (ci := 3) (v := .ref (a0 6)) (C := RGr) (T := TGr) (N := 10) hx hb hts inGr hown hK hP 0 rfl rfl 6 (by decide) (hts _ wv_572) (fun _ h9 => h9) rfl dGr_newGate_47 ?_
    refine lv_iload_n hx hb dGr_newGate_50 rfl (lv_at hl 0 rfl) ?_
    refine lv_iconst (v := 1) hx hb dGr_newGate_51 (by decide) ?_
    refine lv_aload_n hx hb dGr_newGate_52 rfl (lv_at hl 1 rfl) ?_
    refine va_get (D := D) (ci := 3) (v := .ref (a0 6)) (C := RGr) (T := TGr) (N := 10) hx hb hts inGr hown hK hP 0 rfl rfl 6 (by decide) (hts _ wv_572) (fun _ h9 => h9) rfl dGr_newGate_53 ?_
    refine lv_iload_n hx hb dGr_newGate_56 rfl (lv_at hl 2 rfl) ?_
    refine lv_iconst (v := 1) hx hb dGr_newGate_57 (by decide) ?_
    refine lv_ishr hx hb dGr_newGate_58 ?_
    refine lv_topi (fun x_11 ex_11 => ?_)
    have h := op_ks ex_11 h
    obtain ⟨hi_12, h⟩ := op_n h
    refine va_iald (D := D) hx hb hK hP 3 0 rfl rfl hi_12 dGr_newGate_59 ?_
    refine lv_topi (fun x_13 ex_13 => ?_)
    have h := op_ks ex_13 h
    refine lv_aload_n hx hb dGr_newGate_60 rfl (lv_at hl 1 rfl) ?_
    refine va_get (D := D) (ci := 3) (v := .ref (a0 6)) (C := RGr) (T := TGr) (N := 10) hx hb hts inGr hown hK hP 0 rfl rfl 6 (by decide) (hts _ wv_572) (fun _ h9 => h9) rfl dGr_newGate_61 ?_
    refine lv_iload_n hx hb dGr_newGate_64 rfl (lv_at hl 3 rfl) ?_
    refine lv_iconst (v := 1) hx hb dGr_newGate_65 (by decide) ?_
    refine lv_ishr hx hb dGr_newGate_66 ?_
    refine lv_topi (fun x_14 ex_14 => ?_)
    have h := op_ks ex_14 h
    obtain ⟨hi_15, h⟩ := op_n h
    refine va_iald (D := D) hx hb hK hP 3 0 rfl rfl hi_15 dGr_newGate_67 ?_
    refine lv_topi (fun x_16 ex_16 => ?_)
    have h := op_ks ex_16 h
    refine va_mmax (x := x_13) (y := x_16) hx hb (hml.trans hl.1.symm) hown (hts _ wv_1061) (hts _ wv_1062) (hts _ wv_182) (hts _ wv_1063) (Nat.le_of_ble_eq_true rfl) (Nat.le_of_ble_eq_true rfl) (Nat.le_of_ble_eq_true rfl) (Nat.le_of_ble_eq_true rfl) dGr_newGate_68 ?_
    refine lv_topi (fun x_17 ex_17 => ?_)
    have h := op_ks ex_17 h
    refine lv_iadd hx hb dGr_newGate_71 ?_
    refine lv_topi (fun x_18 ex_18 => ?_)
    have h := op_ks ex_18 h
    obtain ⟨hi_19, h⟩ := op_n h
    refine va_iast (D := D) hx hb hK hP hD hS 3 0 rfl rfl hi_19 dGr_newGate_72 (fun H locs hP hD hS => ?_)
    have hP : va_P D vwCl (wGr K h0 a0 (xp o_10 6 q_2.toNatClampNeg x_18)) H := hP
    have hD : va_D A (wGr K h0 a0 (xp o_10 6 q_2.toNatClampNeg x_18)) := hD
    obtain ⟨o_20, eo_20, h⟩ := op_kx h
    rw [← eo_20] at hP hD
    refine lv_aload_n hx hb dGr_newGate_73 rfl (lv_at hl 1 rfl) ?_
    refine va_get (D := D) (ci := 3) (v := .ref (a0 9)) (C := RGr) (T := TGr) (N := 10) hx hb hts inGr hown hK hP 0 rfl rfl 9 (by decide) (hts _ wv_582) (fun _ h9 => h9) rfl dGr_newGate_74 ?_
    refine lv_iload_n hx hb dGr_newGate_77 rfl (lv_at hl 0 rfl) ?_
    refine lv_aload_n hx hb dGr_newGate_78 rfl (lv_at hl 1 rfl) ?_
    refine va_get (D := D) (ci := 3) (v := .ref (a0 8)) (C := RGr) (T := TGr) (N := 10) hx hb hts inGr hown hK hP 0 rfl rfl 8 (by decide) (hts _ wv_581) (fun _ h9 => h9) rfl dGr_newGate_79 ?_
    refine lv_iload_n hx hb dGr_newGate_82 rfl (lv_at hl 2 rfl) ?_
    obtain ⟨hi_21, h⟩ := op_n h
    refine va_iald (D := D) hx hb hK hP 5 0 rfl rfl hi_21 dGr_newGate_83 ?_
    refine lv_topi (fun x_22 ex_22 => ?_)
    have h := op_ks ex_22 h
    obtain ⟨hi_23, h⟩ := op_n h
    refine va_iast (D := D) hx hb hK hP hD hS 6 0 rfl rfl hi_23 dGr_newGate_84 (fun H locs hP hD hS => ?_)
    have hP : va_P D vwCl (wGr K h0 a0 (xp o_20 9 q_2.toNatClampNeg x_22)) H := hP
    have hD : va_D A (wGr K h0 a0 (xp o_20 9 q_2.toNatClampNeg x_22)) := hD
    obtain ⟨o_24, eo_24, h⟩ := op_kx h
    rw [← eo_24] at hP hD
    refine lv_aload_n hx hb dGr_newGate_85 rfl (lv_at hl 1 rfl) ?_
    refine va_get (D := D) (ci := 3) (v := .ref (a0 8)) (C := RGr) (T := TGr) (N := 10) hx hb hts inGr hown hK hP 0 rfl rfl 8 (by decide) (hts _ wv_581) (fun _ h9 => h9) rfl dGr_newGate_86 ?_
    refine lv_iload_n hx hb dGr_newGate_89 rfl (lv_at hl 2 rfl) ?_
    refine lv_iload_n hx hb dGr_newGate_90 rfl (lv_at hl 0 rfl) ?_
    obtain ⟨hi_25, h⟩ := op_n h
    refine va_iast (D := D) hx hb hK hP hD hS 5 0 rfl rfl hi_25 dGr_newGate_91 (fun H locs hP hD hS => ?_)
    have hP : va_P D vwCl (wGr K h0 a0 (xp o_24 8 v1.toNatClampNeg q_2)) H := hP
    have hD : va_D A (wGr K h0 a0 (xp o_24 8 v1.toNatClampNeg q_2)) := hD
    obtain ⟨o_26, eo_26, h⟩ := op_kx h
    rw [← eo_26] at hP hD
    refine lv_iload_n hx hb dGr_newGate_92 rfl (lv_at hl 0 rfl) ?_
    obtain rfl := Option.some.inj h
    exact dc_iret hx hb hr hlocks rfl hP hD hS dGr_newGate_93
  · have h := op_t c_1 h
    refine lv_aload_n hx hb dGr_newGate_10 rfl (lv_at hl 0 rfl) ?_
    refine lv_iconst (v := 1) hx hb dGr_newGate_11 (by decide) ?_
    refine va_put (D := D) (ci := 3) (v := .int 1) (ty := .boolean) (C := RGr) (T := TGr) (N := 10) hx hb hts inGr tyGr tyokGr nmGr hown hK hP hD hS 0 rfl rfl 3 (by decide) (hts _ wv_558) (fun _ h9 => h9) rfl (by decide +kernel) rfl rfl (Nat.le_of_ble_eq_true rfl) dGr_newGate_12 (fun H locs hP hD hS => ?_)
    have hP : va_P D vwCl (wGr K h0 a0 (fp o0 3 1)) H := hP
    have hD : va_D A (wGr K h0 a0 (fp o0 3 1)) := hD
    obtain ⟨o_27, eo_27, h⟩ := op_kx h
    rw [← eo_27] at hP hD
    refine lv_iconst (v := 0) hx hb dGr_newGate_15 (by decide) ?_
    obtain rfl := Option.some.inj h
    exact dc_iret hx hb hr hlocks rfl hP hD hS dGr_newGate_16
set_option maxRecDepth 100000 in
theorem mGr_newGate (l : Launch) (D : va_G) (K : Nat → ClassId) (sz : Nat) (v1 : Int32) (v2 : Int32) (h0 : Nat) (a0 : Nat → Nat) (o0 : cf_O) (r : Int32 × cf_O) (h : fGr_newGate v1 v2 o0 = some r) : Met l yGr_newGate (Cond.code yGr_newGate cGr_newGate 4 (Option.some Jvm.ClassFile.FieldType.int) :: cfB) ({ frames := 1, cells := 0, slots := 0, locals := 34 }) (va_Pc [.ref h0, .int v1, .int v2] (cf_Pre D K sz (wGr K h0 a0 o0))) (va_Qi (fun (x : Int32) (_ : Unit) => x = r.1) (fun (_ : Unit) t => cf_At D (va_A (wGr K h0 a0 o0) sz) (wGr K h0 a0 r.2) t) (va_A (wGr K h0 a0 o0) sz)) 0 0 (va_A (wGr K h0 a0 o0) sz) := by
  refine cf_ofW (y := yGr_newGate) (As := [.ref h0, .int v1, .int v2]) (WS := wGr K h0 a0 o0) (maxL := 4) (fun A => (va_Qi (fun (x : Int32) (_ : Unit) => x = r.1) (fun (_ : Unit) t => cf_At D A (wGr K h0 a0 r.2) t) A)) (by decide) (Nat.le_of_ble_eq_true rfl) ?_
  intro p e s m below meth c A ls En hsz hA hP hD hE hS hl
  have C : (dc_C p s m (([.ref h0, .int v1, .int v2] : List Value).toArray) meth c cGr_newGate 4 (Option.some Jvm.ClassFile.FieldType.int) yGr_newGate ∧ cf_E D K A s s.heap ∧ ∀ q, s.heap.size ≤ q → A q) := ⟨En, hE, hA⟩
  exact bGr_newGate_0 C v1 v2 o0 r h hP hD hS hl
set_option maxHeartbeats 4000000 in
set_option maxRecDepth 100000 in
theorem bGr_and_70 {p : Program} {l : Launch} {e : Env} {s : State} {m : MethodId} {below : List Frame} {meth : Method} {c : Code} {A : Nat → Prop} {D : va_G} {K : Nat → ClassId} {h0 : Nat} {a0 : Nat → Nat} {AR : Array Value} (C : (dc_C p s m AR meth c cGr_and 6 (Option.some Jvm.ClassFile.FieldType.int) yGr_and ∧ cf_E D K A s s.heap ∧ ∀ q, s.heap.size ≤ q → A q)) (s0 : Int32) (s1 : Int32) (o0 : cf_O) (r : Int32 × cf_O) (h : fGr_and_70 s0 s1 o0 = some r) {H : Heap} {locs : List Loc} {ls : Array Slot} (hP : va_P D vwCl (wGr K h0 a0 o0) H) (hD : va_D A (wGr K h0 a0 o0)) (hS : va_S A s.heap H locs) (hl : lv_has ls 6 []) : W p l e ({ frames := 2, cells := 0, slots := 0, locals := 57 }) s m AR below meth c H locs 0 0 (MQ below (va_Qi (fun (x : Int32) (_ : Unit) => x = r.1) (fun (_ : Unit) t => cf_At D A (wGr K h0 a0 r.2) t) A) AR s 0 0 A) (F0 m 70 ls [.int s1, .int s0]) := by
  obtain ⟨⟨hx, hb, hr, hts, hown, hlocks, hin, hml⟩, hE, hA⟩ := id C
  have hK := hE.k
  refine lv_imul hx hb dGr_and_70 ?_
  refine lv_topi (fun x_1 ex_1 => ?_)
  have h := op_ks ex_1 h
  obtain rfl := Option.some.inj h
  exact dc_iret hx hb hr hlocks rfl hP hD hS dGr_and_71
set_option maxHeartbeats 4000000 in
set_option maxRecDepth 100000 in
theorem bGr_and_23 {p : Program} {l : Launch} {e : Env} {s : State} {m : MethodId} {below : List Frame} {meth : Method} {c : Code} {A : Nat → Prop} {D : va_G} {K : Nat → ClassId} {h0 : Nat} {a0 : Nat → Nat} {AR : Array Value} (C : (dc_C p s m AR meth c cGr_and 6 (Option.some Jvm.ClassFile.FieldType.int) yGr_and ∧ cf_E D K A s s.heap ∧ ∀ q, s.heap.size ≤ q → A q)) (v3 : Int32) (o0 : cf_O) (r : Int32 × cf_O) (h : fGr_and_23 v3 o0 = some r) {H : Heap} {locs : List Loc} {ls : Array Slot} (hP : va_P D vwCl (wGr K h0 a0 o0) H) (hD : va_D A (wGr K h0 a0 o0)) (hS : va_S A s.heap H locs) (hl : lv_has ls 6 [(3, .int v3)]) : W p l e ({ frames := 2, cells := 0, slots := 0, locals := 57 }) s m AR below meth c H locs 0 0 (MQ below (va_Qi (fun (x : Int32) (_ : Unit) => x = r.1) (fun (_ : Unit) t => cf_At D A (wGr K h0 a0 r.2) t) A) AR s 0 0 A) (F0 m 23 ls []) := by
  obtain ⟨⟨hx, hb, hr, hts, hown, hlocks, hin, hml⟩, hE, hA⟩ := id C
  have hK := hE.k
  refine lv_iload_n hx hb dGr_and_23 rfl (lv_at hl 0 rfl) ?_
  obtain rfl := Option.some.inj h
  exact dc_iret hx hb hr hlocks rfl hP hD hS dGr_and_24
set_option maxHeartbeats 4000000 in
set_option maxRecDepth 100000 in
theorem bGr_and_0 {p : Program} {l : Launch} {e : Env} {s : State} {m : MethodId} {below : List Frame} {meth : Method} {c : Code} {A : Nat → Prop} {D : va_G} {K : Nat → ClassId} {h0 : Nat} {a0 : Nat → Nat} {AR : Array Value} (C : (dc_C p s m AR meth c cGr_and 6 (Option.some Jvm.ClassFile.FieldType.int) yGr_and ∧ cf_E D K A s s.heap ∧ ∀ q, s.heap.size ≤ q → A q)) (v1 : Int32) (v2 : Int32) (o0 : cf_O) (r : Int32 × cf_O) (h : fGr_and_0 v1 v2 o0 = some r) {H : Heap} {locs : List Loc} {ls : Array Slot} (hP : va_P D vwCl (wGr K h0 a0 o0) H) (hD : va_D A (wGr K h0 a0 o0)) (hS : va_S A s.heap H locs) (hl : lv_has ls 6 [(0, .ref h0), (1, .int v1), (2, .int v2)]) : W p l e ({ frames := 2, cells := 0, slots := 0, locals := 57 }) s m AR below meth c H locs 0 0 (MQ below (va_Qi (fun (x : Int32) (_ : Unit) => x = r.1) (fun (_ : Unit) t => cf_At D A (wGr K h0 a0 r.2) t) A) AR s 0 0 A) (F0 m 0 ls []) := by
  obtain ⟨⟨hx, hb, hr, hts, hown, hlocks, hin, hml⟩, hE, hA⟩ := id C
  have hK := hE.k
  refine lv_iload_n hx hb dGr_and_0 rfl (lv_at hl 1 rfl) ?_
  refine lv_iload_n hx hb dGr_and_1 rfl (lv_at hl 2 rfl) ?_
  refine va_mmin (x := v1) (y := v2) hx hb (hml.trans hl.1.symm) hown (hts _ wv_1058) (hts _ wv_1059) (hts _ wv_182) (hts _ wv_1060) (Nat.le_of_ble_eq_true rfl) (Nat.le_of_ble_eq_true rfl) (Nat.le_of_ble_eq_true rfl) (Nat.le_of_ble_eq_true rfl) dGr_and_2 ?_
  refine lv_topi (fun x_1 ex_1 => ?_)
  have h := op_ks ex_1 h
  refine lv_istore_n (lv' := [(3, .int x_1), (0, .ref h0), (1, .int v1), (2, .int v2)]) hx hb dGr_and_5 rfl hl (by decide) rfl (fun ls hl => ?_)
  refine lv_iload_n hx hb dGr_and_6 rfl (lv_at hl 2 rfl) ?_
  refine lv_iload_n hx hb dGr_and_7 rfl (lv_at hl 3 rfl) ?_
  refine va_mmax (x := v1) (y := v2) hx hb (hml.trans hl.1.symm) hown (hts _ wv_1061) (hts _ wv_1062) (hts _ wv_182) (hts _ wv_1063) (Nat.le_of_ble_eq_true rfl) (Nat.le_of_ble_eq_true rfl) (Nat.le_of_ble_eq_true rfl) (Nat.le_of_ble_eq_true rfl) dGr_and_8 ?_
  refine lv_topi (fun x_2 ex_2 => ?_)
  have h := op_ks ex_2 h
  refine lv_istore (lv' := [(4, .int x_2), (3, .int x_1), (0, .ref h0), (1, .int v1), (2, .int v2)]) hx hb dGr_and_11 hl (by decide) rfl (fun ls hl => ?_)
  refine lv_iload_n hx hb dGr_and_13 rfl (lv_at hl 1 rfl) ?_
  refine lv_if_eq (tgt := 23) hx hb dGr_and_14 (by decide) (fun c_3 => ?_) (fun c_3 => ?_)
  · have h := op_t c_3 h
    exact bGr_and_23 C _ _ _ h hP hD hS (lv_sub hl [1] rfl)
  · have h := op_f c_3 h
    refine lv_iload_n hx hb dGr_and_17 rfl (lv_at hl 1 rfl) ?_
    refine lv_iload hx hb dGr_and_18 (lv_at hl 0 rfl) ?_
    refine lv_icmp_ne (tgt := 25) hx hb dGr_and_20 (by decide) (fun c_4 => ?_) (fun c_4 => ?_)
    · have h := op_f c_4 h
      refine lv_iload_n hx hb dGr_and_25 rfl (lv_at hl 1 rfl) ?_
      refine lv_iconst (v := 1) hx hb dGr_and_26 (by decide) ?_
      refine lv_icmp_ne (tgt := 33) hx hb dGr_and_27 (by decide) (fun c_5 => ?_) (fun c_5 => ?_)
      · have h := op_f c_5 h
        refine lv_iload_n hx hb dGr_and_33 rfl (lv_at hl 1 rfl) ?_
        refine lv_iconst (v := 1) hx hb dGr_and_34 (by decide) ?_
        refine lv_ixor hx hb dGr_and_35 ?_
        refine lv_topi (fun x_6 ex_6 => ?_)
        have h := op_ks ex_6 h
        refine lv_iload hx hb dGr_and_36 (lv_at hl 0 rfl) ?_
        refine lv_icmp_ne (tgt := 43) hx hb dGr_and_38 (by decide) (fun c_7 => ?_) (fun c_7 => ?_)
        · have h := op_f c_7 h
          refine lv_aload_n hx hb dGr_and_43 rfl (lv_at hl 2 rfl) ?_
          refine lv_iload_n hx hb dGr_and_44 rfl (lv_at hl 1 rfl) ?_
          refine lv_iload hx hb dGr_and_45 (lv_at hl 0 rfl) ?_
          obtain ⟨q_8, hq_8, h⟩ := op_b h
          refine dc_calli (va_runV (As := [.int x_1, .int x_2]) (rest := []) ⟨hx, hb, hml, hown, hts⟩ (mGr_gateThere l D K _ x_1 x_2 h0 a0 o0 _ hq_8) (cwV 2 hts (cf_GV wv_1064 wv_1066 wv_22 wv_171 wv_1067) rfl rfl rfl (by decide +kernel) ⟨Nat.le_of_ble_eq_true rfl, Nat.le_of_ble_eq_true rfl⟩) (dc_preV hE hP hD hS hA rfl 0 rfl) rfl rfl hl.1 rfl (lv_room (Nat.le_of_ble_eq_true rfl)) dGr_and_47 ⟨Nat.le_of_ble_eq_true rfl, Nat.le_of_ble_eq_true rfl⟩) hP hD hS hA (fun r_9 H locs hw_10 hP hD hS => ?_)
          subst r_9
          refine lv_istore (lv' := [(5, .int q_8), (4, .int x_2), (3, .int x_1), (0, .ref h0), (1, .int v1), (2, .int v2)]) hx hb dGr_and_50 hl (by decide) rfl (fun ls hl => ?_)
          refine lv_iconst (v := 2) hx hb dGr_and_52 (by decide) ?_
          refine lv_iload hx hb dGr_and_53 (lv_at hl 0 rfl) ?_
          refine lv_if_eq (tgt := 63) hx hb dGr_and_55 (by decide) (fun c_11 => ?_) (fun c_11 => ?_)
          · have h := op_t c_11 h
            refine lv_aload_n hx hb dGr_and_63 rfl (lv_at hl 3 rfl) ?_
            refine lv_iload_n hx hb dGr_and_64 rfl (lv_at hl 2 rfl) ?_
            refine lv_iload hx hb dGr_and_65 (lv_at hl 1 rfl) ?_
            obtain ⟨q_12, hq_12, h⟩ := op_b h
            refine dc_calli (va_runV (As := [.int x_1, .int x_2]) (rest := [.int 2]) ⟨hx, hb, hml, hown, hts⟩ (mGr_newGate l D K _ x_1 x_2 h0 a0 o0 _ hq_12) (cwV 2 hts (cf_GV wv_1068 wv_1070 wv_23 wv_171 wv_1071) rfl rfl rfl (by decide +kernel) ⟨Nat.le_of_ble_eq_true rfl, Nat.le_of_ble_eq_true rfl⟩) (dc_preV hE hP hD hS hA rfl 0 rfl) rfl rfl hl.1 rfl (lv_room (Nat.le_of_ble_eq_true rfl)) dGr_and_67 ⟨Nat.le_of_ble_eq_true rfl, Nat.le_of_ble_eq_true rfl⟩) hP hD hS hA (fun r_13 H locs hw_14 hP hD hS => ?_)
            subst r_13
            exact bGr_and_70 C _ _ _ _ h hP hD hS (lv_sub hl [] rfl)
          · have h := op_f c_11 h
            refine lv_iload hx hb dGr_and_58 (lv_at hl 0 rfl) ?_
            refine lv_goto (tgt := 70) hx hb dGr_and_60 (by decide) ?_
            exact bGr_and_70 C _ _ _ _ h hP hD hS (lv_sub hl [] rfl)
        · have h := op_t c_7 h
          refine lv_iconst (v := 0) hx hb dGr_and_41 (by decide) ?_
          obtain rfl := Option.some.inj h
          exact dc_iret hx hb hr hlocks rfl hP hD hS dGr_and_42
      · have h := op_t c_5 h
        refine lv_iload hx hb dGr_and_30 (lv_at hl 0 rfl) ?_
        obtain rfl := Option.some.inj h
        exact dc_iret hx hb hr hlocks rfl hP hD hS dGr_and_32
    · have h := op_t c_4 h
      exact bGr_and_23 C _ _ _ h hP hD hS (lv_sub hl [1] rfl)
set_option maxRecDepth 100000 in
theorem mGr_and (l : Launch) (D : va_G) (K : Nat → ClassId) (sz : Nat) (v1 : Int32) (v2 : Int32) (h0 : Nat) (a0 : Nat → Nat) (o0 : cf_O) (r : Int32 × cf_O) (h : fGr_and v1 v2 o0 = some r) : Met l yGr_and (Cond.code yGr_and cGr_and 6 (Option.some Jvm.ClassFile.FieldType.int) :: cfB) ({ frames := 2, cells := 0, slots := 0, locals := 57 }) (va_Pc [.ref h0, .int v1, .int v2] (cf_Pre D K sz (wGr K h0 a0 o0))) (va_Qi (fun (x : Int32) (_ : Unit) => x = r.1) (fun (_ : Unit) t => cf_At D (va_A (wGr K h0 a0 o0) sz) (wGr K h0 a0 r.2) t) (va_A (wGr K h0 a0 o0) sz)) 0 0 (va_A (wGr K h0 a0 o0) sz) := by
  refine cf_ofW (y := yGr_and) (As := [.ref h0, .int v1, .int v2]) (WS := wGr K h0 a0 o0) (maxL := 6) (fun A => (va_Qi (fun (x : Int32) (_ : Unit) => x = r.1) (fun (_ : Unit) t => cf_At D A (wGr K h0 a0 r.2) t) A)) (by decide) (Nat.le_of_ble_eq_true rfl) ?_
  intro p e s m below meth c A ls En hsz hA hP hD hE hS hl
  have C : (dc_C p s m (([.ref h0, .int v1, .int v2] : List Value).toArray) meth c cGr_and 6 (Option.some Jvm.ClassFile.FieldType.int) yGr_and ∧ cf_E D K A s s.heap ∧ ∀ q, s.heap.size ≤ q → A q) := ⟨En, hE, hA⟩
  exact bGr_and_0 C v1 v2 o0 r h hP hD hS hl
set_option maxHeartbeats 4000000 in
set_option maxRecDepth 100000 in
theorem bGr_or_0 {p : Program} {l : Launch} {e : Env} {s : State} {m : MethodId} {below : List Frame} {meth : Method} {c : Code} {A : Nat → Prop} {D : va_G} {K : Nat → ClassId} {h0 : Nat} {a0 : Nat → Nat} {AR : Array Value} (C : (dc_C p s m AR meth c cGr_or 3 (Option.some Jvm.ClassFile.FieldType.int) yGr_or ∧ cf_E D K A s s.heap ∧ ∀ q, s.heap.size ≤ q → A q)) (v1 : Int32) (v2 : Int32) (o0 : cf_O) (r : Int32 × cf_O) (h : fGr_or_0 v1 v2 o0 = some r) {H : Heap} {locs : List Loc} {ls : Array Slot} (hP : va_P D vwCl (wGr K h0 a0 o0) H) (hD : va_D A (wGr K h0 a0 o0)) (hS : va_S A s.heap H locs) (hl : lv_has ls 3 [(0, .ref h0), (1, .int v1), (2, .int v2)]) : W p l e ({ frames := 3, cells := 0, slots := 0, locals := 82 }) s m AR below meth c H locs 0 0 (MQ below (va_Qi (fun (x : Int32) (_ : Unit) => x = r.1) (fun (_ : Unit) t => cf_At D A (wGr K h0 a0 r.2) t) A) AR s 0 0 A) (F0 m 0 ls []) := by
  obtain ⟨⟨hx, hb, hr, hts, hown, hlocks, hin, hml⟩, hE, hA⟩ := id C
  have hK := hE.k
  refine lv_aload_n hx hb dGr_or_0 rfl (lv_at hl 0 rfl) ?_
  refine lv_iload_n hx hb dGr_or_1 rfl (lv_at hl 1 rfl) ?_
  refine lv_iconst (v := 1) hx hb dGr_or_2 (by decide) ?_
  refine lv_ixor hx hb dGr_or_3 ?_
  refine lv_topi (fun x_1 ex_1 => ?_)
  have h := op_ks ex_1 h
  refine lv_iload_n hx hb dGr_or_4 rfl (lv_at hl 2 rfl) ?_
  refine lv_iconst (v := 1) hx hb dGr_or_5 (by decide) ?_
  refine lv_ixor hx hb dGr_or_6 ?_
  refine lv_topi (fun x_2 ex_2 => ?_)
  have h := op_ks ex_2 h
  obtain ⟨q_3, hq_3, h⟩ := op_b h
  refine dc_calli (va_runV (As := [.int x_1, .int x_2]) (rest := []) ⟨hx, hb, hml, hown, hts⟩ (mGr_and l D K _ x_1 x_2 h0 a0 o0 _ hq_3) (cwV 2 hts (cf_GV wv_1080 wv_1055 wv_1056 wv_171 wv_1057) rfl rfl rfl (by decide +kernel) ⟨Nat.le_of_ble_eq_true rfl, Nat.le_of_ble_eq_true rfl⟩) (dc_preV hE hP hD hS hA rfl 0 rfl) rfl rfl hl.1 rfl (lv_room (Nat.le_of_ble_eq_true rfl)) dGr_or_7 ⟨Nat.le_of_ble_eq_true rfl, Nat.le_of_ble_eq_true rfl⟩) hP hD hS hA (fun r_4 H locs hw_5 hP hD hS => ?_)
  subst r_4
  refine lv_iconst (v := 1) hx hb dGr_or_10 (by decide) ?_
  refine lv_ixor hx hb dGr_or_11 ?_
  refine lv_topi (fun x_6 ex_6 => ?_)
  have h := op_ks ex_6 h
  obtain rfl := Option.some.inj h
  exact dc_iret hx hb hr hlocks rfl hP hD hS dGr_or_12
set_option maxRecDepth 100000 in
theorem mGr_or (l : Launch) (D : va_G) (K : Nat → ClassId) (sz : Nat) (v1 : Int32) (v2 : Int32) (h0 : Nat) (a0 : Nat → Nat) (o0 : cf_O) (r : Int32 × cf_O) (h : fGr_or v1 v2 o0 = some r) : Met l yGr_or (Cond.code yGr_or cGr_or 3 (Option.some Jvm.ClassFile.FieldType.int) :: cfB) ({ frames := 3, cells := 0, slots := 0, locals := 82 }) (va_Pc [.ref h0, .int v1, .int v2] (cf_Pre D K sz (wGr K h0 a0 o0))) (va_Qi (fun (x : Int32) (_ : Unit) => x = r.1) (fun (_ : Unit) t => cf_At D (va_A (wGr K h0 a0 o0) sz) (wGr K h0 a0 r.2) t) (va_A (wGr K h0 a0 o0) sz)) 0 0 (va_A (wGr K h0 a0 o0) sz) := by
  refine cf_ofW (y := yGr_or) (As := [.ref h0, .int v1, .int v2]) (WS := wGr K h0 a0 o0) (maxL := 3) (fun A => (va_Qi (fun (x : Int32) (_ : Unit) => x = r.1) (fun (_ : Unit) t => cf_At D A (wGr K h0 a0 r.2) t) A)) (by decide) (Nat.le_of_ble_eq_true rfl) ?_
  intro p e s m below meth c A ls En hsz hA hP hD hE hS hl
  have C : (dc_C p s m (([.ref h0, .int v1, .int v2] : List Value).toArray) meth c cGr_or 3 (Option.some Jvm.ClassFile.FieldType.int) yGr_or ∧ cf_E D K A s s.heap ∧ ∀ q, s.heap.size ≤ q → A q) := ⟨En, hE, hA⟩
  exact bGr_or_0 C v1 v2 o0 r h hP hD hS hl
set_option maxHeartbeats 4000000 in
set_option maxRecDepth 100000 in
theorem bTx_rewind_0 {p : Program} {l : Launch} {e : Env} {s : State} {m : MethodId} {below : List Frame} {meth : Method} {c : Code} {A : Nat → Prop} {D : va_G} {K : Nat → ClassId} {h0 : Nat} {a0 : Nat → Nat} {AR : Array Value} (C : (dc_C p s m AR meth c cTx_rewind 1 (Option.none : Option Jvm.ClassFile.FieldType) yTx_rewind ∧ cf_E D K A s s.heap ∧ ∀ q, s.heap.size ≤ q → A q)) (o0 : cf_O) (r : cf_O) (h : fTx_rewind_0 o0 = some r) {H : Heap} {locs : List Loc} {ls : Array Slot} (hP : va_P D vwCl (wTx K h0 a0 o0) H) (hD : va_D A (wTx K h0 a0 o0)) (hS : va_S A s.heap H locs) (hl : lv_has ls 1 [(0, .ref h0)]) : W p l e ({ frames := 0, cells := 0, slots := 0, locals := 0 }) s m AR below meth c H locs 0 0 (MQ below (va_Qv (fun (_ : Unit) => True) (fun (_ : Unit) t => cf_At D A (wTx K h0 a0 r) t) A) AR s 0 0 A) (F0 m 0 ls []) := by
  obtain ⟨⟨hx, hb, hr, hts, hown, hlocks, hin, hml⟩, hE, hA⟩ := id C
  have hK := hE.k
  refine lv_aload_n hx hb dTx_rewind_0 rfl (lv_at hl 0 rfl) ?_
  refine lv_iconst (v := 0) hx hb dTx_rewind_1 (by decide) ?_
  refine va_put (D := D) (ci := 1) (v := .int 0) (ty := .int) (C := RTx) (T := TTx) (N := 7) hx hb hts inTx tyTx tyokTx nmTx hown hK hP hD hS 0 rfl rfl 6 (by decide) (hts _ wv_216) (fun _ h9 => h9) rfl (by decide +kernel) rfl rfl (Nat.le_of_ble_eq_true rfl) dTx_rewind_2 (fun H locs hP hD hS => ?_)
  have hP : va_P D vwCl (wTx K h0 a0 (fp o0 6 0)) H := hP
  have hD : va_D A (wTx K h0 a0 (fp o0 6 0)) := hD
  obtain ⟨o_1, eo_1, h⟩ := op_kx h
  rw [← eo_1] at hP hD
  refine lv_aload_n hx hb dTx_rewind_5 rfl (lv_at hl 0 rfl) ?_
  refine lv_iconst (v := (-1)) hx hb dTx_rewind_6 (by decide) ?_
  refine va_put (D := D) (ci := 1) (v := .int (-1)) (ty := .int) (C := RTx) (T := TTx) (N := 7) hx hb hts inTx tyTx tyokTx nmTx hown hK hP hD hS 0 rfl rfl 4 (by decide) (hts _ wv_211) (fun _ h9 => h9) rfl (by decide +kernel) rfl rfl (Nat.le_of_ble_eq_true rfl) dTx_rewind_7 (fun H locs hP hD hS => ?_)
  have hP : va_P D vwCl (wTx K h0 a0 (fp o_1 4 (-1))) H := hP
  have hD : va_D A (wTx K h0 a0 (fp o_1 4 (-1))) := hD
  obtain ⟨o_2, eo_2, h⟩ := op_kx h
  rw [← eo_2] at hP hD
  obtain rfl := Option.some.inj h
  exact dc_vret hx hb hr hlocks rfl hP hD hS dTx_rewind_10
set_option maxRecDepth 100000 in
theorem mTx_rewind (l : Launch) (D : va_G) (K : Nat → ClassId) (sz : Nat) (h0 : Nat) (a0 : Nat → Nat) (o0 : cf_O) (r : cf_O) (h : fTx_rewind o0 = some r) : Met l yTx_rewind (Cond.code yTx_rewind cTx_rewind 1 (Option.none : Option Jvm.ClassFile.FieldType) :: cfB) ({ frames := 0, cells := 0, slots := 0, locals := 0 }) (va_Pc [.ref h0] (cf_Pre D K sz (wTx K h0 a0 o0))) (va_Qv (fun (_ : Unit) => True) (fun (_ : Unit) t => cf_At D (va_A (wTx K h0 a0 o0) sz) (wTx K h0 a0 r) t) (va_A (wTx K h0 a0 o0) sz)) 0 0 (va_A (wTx K h0 a0 o0) sz) := by
  refine cf_ofW (y := yTx_rewind) (As := [.ref h0]) (WS := wTx K h0 a0 o0) (maxL := 1) (fun A => (va_Qv (fun (_ : Unit) => True) (fun (_ : Unit) t => cf_At D A (wTx K h0 a0 r) t) A)) (by decide) (Nat.le_of_ble_eq_true rfl) ?_
  intro p e s m below meth c A ls En hsz hA hP hD hE hS hl
  have C : (dc_C p s m (([.ref h0] : List Value).toArray) meth c cTx_rewind 1 (Option.none : Option Jvm.ClassFile.FieldType) yTx_rewind ∧ cf_E D K A s s.heap ∧ ∀ q, s.heap.size ≤ q → A q) := ⟨En, hE, hA⟩
  exact bTx_rewind_0 C o0 r h hP hD hS hl
def IhTx_splitLine (p : Program) (l : Launch) (e : Env) (s : State) (m : MethodId) (below : List Frame) (meth : Method) (c : Code) (A : Nat → Prop) (D : va_G) (K : Nat → ClassId) (h0 : Nat) (a0 : Nat → Nat) (AR : Array Value) (n : Nat) : Prop := (∀ (v1 : Int32) (v2 : Int32) (v3 : Int32) (o0 : cf_O) (r : cf_O), gTx_splitLine n 0 v1 v2 v3 o0 = some r → ∀ {H : Heap} {locs : List Loc} {ls : Array Slot}, (va_P D vwCl (wTx K h0 a0 o0) H) → (va_D A (wTx K h0 a0 o0)) → va_S A s.heap H locs → lv_has ls 5 [(0, .ref h0), (1, .int v1), (2, .int v2), (3, .int v3)] → W p l e ({ frames := 0, cells := 0, slots := 0, locals := 0 }) s m AR below meth c H locs 0 0 (MQ below (va_Qv (fun (_ : Unit) => True) (fun (_ : Unit) t => cf_At D A (wTx K h0 a0 r) t) A) AR s 0 0 A) (F0 m 14 ls []))
set_option maxHeartbeats 4000000 in
set_option maxRecDepth 100000 in
theorem bTx_splitLine_142 {p : Program} {l : Launch} {e : Env} {s : State} {m : MethodId} {below : List Frame} {meth : Method} {c : Code} {A : Nat → Prop} {D : va_G} {K : Nat → ClassId} {h0 : Nat} {a0 : Nat → Nat} {AR : Array Value} (C : (dc_C p s m AR meth c cTx_splitLine 5 (Option.none : Option Jvm.ClassFile.FieldType) yTx_splitLine ∧ cf_E D K A s s.heap ∧ ∀ q, s.heap.size ≤ q → A q)) {n : Nat} (ih : IhTx_splitLine p l e s m below meth c A D K h0 a0 AR n) (v3 : Int32) (o0 : cf_O) (r : cf_O) (h : fTx_splitLine_142 (gTx_splitLine n) v3 o0 = some r) {H : Heap} {locs : List Loc} {ls : Array Slot} (hP : va_P D vwCl (wTx K h0 a0 o0) H) (hD : va_D A (wTx K h0 a0 o0)) (hS : va_S A s.heap H locs) (hl : lv_has ls 5 [(0, .ref h0), (3, .int v3)]) : W p l e ({ frames := 0, cells := 0, slots := 0, locals := 0 }) s m AR below meth c H locs 0 0 (MQ below (va_Qv (fun (_ : Unit) => True) (fun (_ : Unit) t => cf_At D A (wTx K h0 a0 r) t) A) AR s 0 0 A) (F0 m 142 ls []) := by
  obtain ⟨⟨hx, hb, hr, hts, hown, hlocks, hin, hml⟩, hE, hA⟩ := id C
  have hK := hE.k
  refine lv_aload_n hx hb dTx_splitLine_142 rfl (lv_at hl 0 rfl) ?_
  refine lv_iload_n hx hb dTx_splitLine_143 rfl (lv_at hl 1 rfl) ?_
  refine lv_iconst (v := 1) hx hb dTx_splitLine_144 (by decide) ?_
  refine lv_iadd hx hb dTx_splitLine_145 ?_
  refine lv_topi (fun x_1 ex_1 => ?_)
  have h := op_ks ex_1 h
  refine va_put (D := D) (ci := 1) (v := .int x_1) (ty := .int) (C := RTx) (T := TTx) (N := 7) hx hb hts inTx tyTx tyokTx nmTx hown hK hP hD hS 0 rfl rfl 6 (by decide) (hts _ wv_216) (fun _ h9 => h9) rfl (by decide +kernel) rfl rfl (Nat.le_of_ble_eq_true rfl) dTx_splitLine_146 (fun H locs hP hD hS => ?_)
  have hP : va_P D vwCl (wTx K h0 a0 (fp o0 6 x_1)) H := hP
  have hD : va_D A (wTx K h0 a0 (fp o0 6 x_1)) := hD
  obtain ⟨o_2, eo_2, h⟩ := op_kx h
  rw [← eo_2] at hP hD
  obtain rfl := Option.some.inj h
  exact dc_vret hx hb hr hlocks rfl hP hD hS dTx_splitLine_149
set_option maxHeartbeats 4000000 in
set_option maxRecDepth 100000 in
theorem bTx_splitLine_133 {p : Program} {l : Launch} {e : Env} {s : State} {m : MethodId} {below : List Frame} {meth : Method} {c : Code} {A : Nat → Prop} {D : va_G} {K : Nat → ClassId} {h0 : Nat} {a0 : Nat → Nat} {AR : Array Value} (C : (dc_C p s m AR meth c cTx_splitLine 5 (Option.none : Option Jvm.ClassFile.FieldType) yTx_splitLine ∧ cf_E D K A s s.heap ∧ ∀ q, s.heap.size ≤ q → A q)) {n : Nat} (ih : IhTx_splitLine p l e s m below meth c A D K h0 a0 AR n) (v1 : Int32) (v3 : Int32) (v4 : Int32) (o0 : cf_O) (r : cf_O) (h : fTx_splitLine_133 (gTx_splitLine n) v1 v3 v4 o0 = some r) {H : Heap} {locs : List Loc} {ls : Array Slot} (hP : va_P D vwCl (wTx K h0 a0 o0) H) (hD : va_D A (wTx K h0 a0 o0)) (hS : va_S A s.heap H locs) (hl : lv_has ls 5 [(0, .ref h0), (1, .int v1), (3, .int v3), (4, .int v4)]) : W p l e ({ frames := 0, cells := 0, slots := 0, locals := 0 }) s m AR below meth c H locs 0 0 (MQ below (va_Qv (fun (_ : Unit) => True) (fun (_ : Unit) t => cf_At D A (wTx K h0 a0 r) t) A) AR s 0 0 A) (F0 m 133 ls []) := by
  obtain ⟨⟨hx, hb, hr, hts, hown, hlocks, hin, hml⟩, hE, hA⟩ := id C
  have hK := hE.k
  refine lv_iload hx hb dTx_splitLine_133 (lv_at hl 3 rfl) ?_
  refine lv_istore_n (lv' := [(2, .int v4), (0, .ref h0), (1, .int v1), (3, .int v3), (4, .int v4)]) hx hb dTx_splitLine_135 rfl hl (by decide) rfl (fun ls hl => ?_)
  obtain ⟨x_1, ex_1⟩ : ∃ y : Int32, y = v3 + 1 := ⟨_, rfl⟩
  refine lv_iinc (v := x_1) (lv' := [(3, .int x_1), (2, .int v4), (0, .ref h0), (1, .int v1), (4, .int v4)]) hx hb dTx_splitLine_136 hl (k := 3) rfl (by rw [ex_1]; rfl) (by decide) rfl (fun ls hl => ?_)
  have h := op_ks ex_1 h
  refine lv_goto (tgt := 14) hx hb dTx_splitLine_139 (by decide) ?_
  exact (ih) _ _ _ _ _ h hP hD hS (lv_sub hl [2, 3, 1, 0] rfl)
set_option maxHeartbeats 4000000 in
set_option maxRecDepth 100000 in
theorem bTx_splitLine_114 {p : Program} {l : Launch} {e : Env} {s : State} {m : MethodId} {below : List Frame} {meth : Method} {c : Code} {A : Nat → Prop} {D : va_G} {K : Nat → ClassId} {h0 : Nat} {a0 : Nat → Nat} {AR : Array Value} (C : (dc_C p s m AR meth c cTx_splitLine 5 (Option.none : Option Jvm.ClassFile.FieldType) yTx_splitLine ∧ cf_E D K A s s.heap ∧ ∀ q, s.heap.size ≤ q → A q)) {n : Nat} (ih : IhTx_splitLine p l e s m below meth c A D K h0 a0 AR n) (v1 : Int32) (v3 : Int32) (v4 : Int32) (o0 : cf_O) (r : cf_O) (h : fTx_splitLine_114 (gTx_splitLine n) v1 v3 v4 o0 = some r) {H : Heap} {locs : List Loc} {ls : Array Slot} (hP : va_P D vwCl (wTx K h0 a0 o0) H) (hD : va_D A (wTx K h0 a0 o0)) (hS : va_S A s.heap H locs) (hl : lv_has ls 5 [(0, .ref h0), (1, .int v1), (3, .int v3), (4, .int v4)]) : W p l e ({ frames := 0, cells := 0, slots := 0, locals := 0 }) s m AR below meth c H locs 0 0 (MQ below (va_Qv (fun (_ : Unit) => True) (fun (_ : Unit) t => cf_At D A (wTx K h0 a0 r) t) A) AR s 0 0 A) (F0 m 114 ls []) := by
  obtain ⟨⟨hx, hb, hr, hts, hown, hlocks, hin, hml⟩, hE, hA⟩ := id C
  have hK := hE.k
  refine lv_iload hx hb dTx_splitLine_114 (lv_at hl 3 rfl) ?_
  refine lv_if_eq (tgt := 133) hx hb dTx_splitLine_116 (by decide) (fun c_1 => ?_) (fun c_1 => ?_)
  · have h := op_t c_1 h
    exact bTx_splitLine_133 C ih _ _ _ _ _ h hP hD hS (lv_sub hl [0, 1, 2, 3] rfl)
  · have h := op_f c_1 h
    refine lv_aload_n hx hb dTx_splitLine_119 rfl (lv_at hl 0 rfl) ?_
    refine va_get (D := D) (ci := 1) (v := .ref (a0 2)) (C := RTx) (T := TTx) (N := 7) hx hb hts inTx hown hK hP 0 rfl rfl 2 (by decide) (hts _ wv_207) (fun _ h9 => h9) rfl dTx_splitLine_120 ?_
    refine lv_aload_n hx hb dTx_splitLine_123 rfl (lv_at hl 0 rfl) ?_
    refine va_get (D := D) (ci := 1) (v := .int (o0.1 5)) (C := RTx) (T := TTx) (N := 7) hx hb hts inTx hown hK hP 0 rfl rfl 5 (by decide) (hts _ wv_215) (fun _ h9 => h9) rfl dTx_splitLine_124 ?_
    refine lv_iconst (v := 1) hx hb dTx_splitLine_127 (by decide) ?_
    refine lv_isub hx hb dTx_splitLine_128 ?_
    refine lv_topi (fun x_2 ex_2 => ?_)
    have h := op_ks ex_2 h
    refine lv_iload_n hx hb dTx_splitLine_129 rfl (lv_at hl 2 rfl) ?_
    refine lv_iconst (v := 1) hx hb dTx_splitLine_130 (by decide) ?_
    refine lv_iadd hx hb dTx_splitLine_131 ?_
    refine lv_topi (fun x_3 ex_3 => ?_)
    have h := op_ks ex_3 h
    obtain ⟨hi_4, h⟩ := op_n h
    refine va_iast (D := D) hx hb hK hP hD hS 3 0 rfl rfl hi_4 dTx_splitLine_132 (fun H locs hP hD hS => ?_)
    have hP : va_P D vwCl (wTx K h0 a0 (xp o0 2 x_2.toNatClampNeg x_3)) H := hP
    have hD : va_D A (wTx K h0 a0 (xp o0 2 x_2.toNatClampNeg x_3)) := hD
    obtain ⟨o_5, eo_5, h⟩ := op_kx h
    rw [← eo_5] at hP hD
    exact bTx_splitLine_133 C ih _ _ _ _ _ h hP hD hS (lv_sub hl [0, 1, 2, 3] rfl)
set_option maxHeartbeats 4000000 in
set_option maxRecDepth 100000 in
theorem bTx_splitLine_74 {p : Program} {l : Launch} {e : Env} {s : State} {m : MethodId} {below : List Frame} {meth : Method} {c : Code} {A : Nat → Prop} {D : va_G} {K : Nat → ClassId} {h0 : Nat} {a0 : Nat → Nat} {AR : Array Value} (C : (dc_C p s m AR meth c cTx_splitLine 5 (Option.none : Option Jvm.ClassFile.FieldType) yTx_splitLine ∧ cf_E D K A s s.heap ∧ ∀ q, s.heap.size ≤ q → A q)) {n : Nat} (ih : IhTx_splitLine p l e s m below meth c A D K h0 a0 AR n) (v1 : Int32) (v2 : Int32) (v3 : Int32) (s0 : Int32) (o0 : cf_O) (r : cf_O) (h : fTx_splitLine_74 (gTx_splitLine n) v1 v2 v3 s0 o0 = some r) {H : Heap} {locs : List Loc} {ls : Array Slot} (hP : va_P D vwCl (wTx K h0 a0 o0) H) (hD : va_D A (wTx K h0 a0 o0)) (hS : va_S A s.heap H locs) (hl : lv_has ls 5 [(0, .ref h0), (1, .int v1), (2, .int v2), (3, .int v3)]) : W p l e ({ frames := 0, cells := 0, slots := 0, locals := 0 }) s m AR below meth c H locs 0 0 (MQ below (va_Qv (fun (_ : Unit) => True) (fun (_ : Unit) t => cf_At D A (wTx K h0 a0 r) t) A) AR s 0 0 A) (F0 m 74 ls [.int s0]) := by
  obtain ⟨⟨hx, hb, hr, hts, hown, hlocks, hin, hml⟩, hE, hA⟩ := id C
  have hK := hE.k
  refine lv_istore (lv' := [(4, .int s0), (0, .ref h0), (1, .int v1), (2, .int v2), (3, .int v3)]) hx hb dTx_splitLine_74 hl (by decide) rfl (fun ls hl => ?_)
  refine lv_iload hx hb dTx_splitLine_76 (lv_at hl 0 rfl) ?_
  refine lv_if_eq (tgt := 114) hx hb dTx_splitLine_78 (by decide) (fun c_1 => ?_) (fun c_1 => ?_)
  · have h := op_t c_1 h
    exact bTx_splitLine_114 C ih _ _ _ _ _ h hP hD hS (lv_sub hl [1, 2, 4, 0] rfl)
  · have h := op_f c_1 h
    refine lv_iload_n hx hb dTx_splitLine_81 rfl (lv_at hl 3 rfl) ?_
    refine lv_if_ne (tgt := 114) hx hb dTx_splitLine_82 (by decide) (fun c_2 => ?_) (fun c_2 => ?_)
    · have h := op_f c_2 h
      exact bTx_splitLine_114 C ih _ _ _ _ _ h hP hD hS (lv_sub hl [1, 2, 4, 0] rfl)
    · have h := op_t c_2 h
      refine lv_aload_n hx hb dTx_splitLine_85 rfl (lv_at hl 1 rfl) ?_
      refine va_get (D := D) (ci := 1) (v := .int (o0.1 5)) (C := RTx) (T := TTx) (N := 7) hx hb hts inTx hown hK hP 0 rfl rfl 5 (by decide) (hts _ wv_215) (fun _ h9 => h9) rfl dTx_splitLine_86 ?_
      refine lv_bipush (v := 10) hx hb dTx_splitLine_89 (by decide) ?_
      refine lv_icmp_ge (tgt := 114) hx hb dTx_splitLine_91 (by decide) (fun c_3 => ?_) (fun c_3 => ?_)
      · have h := op_t c_3 h
        exact bTx_splitLine_114 C ih _ _ _ _ _ h hP hD hS (lv_sub hl [1, 2, 4, 0] rfl)
      · have h := op_f c_3 h
        refine lv_aload_n hx hb dTx_splitLine_94 rfl (lv_at hl 1 rfl) ?_
        refine va_get (D := D) (ci := 1) (v := .ref (a0 1)) (C := RTx) (T := TTx) (N := 7) hx hb hts inTx hown hK hP 0 rfl rfl 1 (by decide) (hts _ wv_206) (fun _ h9 => h9) rfl dTx_splitLine_95 ?_
        refine lv_aload_n hx hb dTx_splitLine_98 rfl (lv_at hl 1 rfl) ?_
        refine va_get (D := D) (ci := 1) (v := .int (o0.1 5)) (C := RTx) (T := TTx) (N := 7) hx hb hts inTx hown hK hP 0 rfl rfl 5 (by decide) (hts _ wv_215) (fun _ h9 => h9) rfl dTx_splitLine_99 ?_
        refine lv_iload_n hx hb dTx_splitLine_102 rfl (lv_at hl 4 rfl) ?_
        obtain ⟨hi_4, h⟩ := op_n h
        refine va_iast (D := D) hx hb hK hP hD hS 2 0 rfl rfl hi_4 dTx_splitLine_103 (fun H locs hP hD hS => ?_)
        have hP : va_P D vwCl (wTx K h0 a0 (xp o0 1 (o0.1 5).toNatClampNeg v3)) H := hP
        have hD : va_D A (wTx K h0 a0 (xp o0 1 (o0.1 5).toNatClampNeg v3)) := hD
        obtain ⟨o_5, eo_5, h⟩ := op_kx h
        rw [← eo_5] at hP hD
        refine lv_aload_n hx hb dTx_splitLine_104 rfl (lv_at hl 1 rfl) ?_
        refine lv_dup hx hb dTx_splitLine_105 rfl ?_
        refine va_get (D := D) (ci := 1) (v := .int (o_5.1 5)) (C := RTx) (T := TTx) (N := 7) hx hb hts inTx hown hK hP 0 rfl rfl 5 (by decide) (hts _ wv_215) (fun _ h9 => h9) rfl dTx_splitLine_106 ?_
        refine lv_iconst (v := 1) hx hb dTx_splitLine_109 (by decide) ?_
        refine lv_iadd hx hb dTx_splitLine_110 ?_
        refine lv_topi (fun x_6 ex_6 => ?_)
        have h := op_ks ex_6 h
        refine va_put (D := D) (ci := 1) (v := .int x_6) (ty := .int) (C := RTx) (T := TTx) (N := 7) hx hb hts inTx tyTx tyokTx nmTx hown hK hP hD hS 0 rfl rfl 5 (by decide) (hts _ wv_215) (fun _ h9 => h9) rfl (by decide +kernel) rfl rfl (Nat.le_of_ble_eq_true rfl) dTx_splitLine_111 (fun H locs hP hD hS => ?_)
        have hP : va_P D vwCl (wTx K h0 a0 (fp o_5 5 x_6)) H := hP
        have hD : va_D A (wTx K h0 a0 (fp o_5 5 x_6)) := hD
        obtain ⟨o_7, eo_7, h⟩ := op_kx h
        rw [← eo_7] at hP hD
        exact bTx_splitLine_114 C ih _ _ _ _ _ h hP hD hS (lv_sub hl [1, 2, 4, 0] rfl)
set_option maxHeartbeats 4000000 in
set_option maxRecDepth 100000 in
theorem bTx_splitLine_73 {p : Program} {l : Launch} {e : Env} {s : State} {m : MethodId} {below : List Frame} {meth : Method} {c : Code} {A : Nat → Prop} {D : va_G} {K : Nat → ClassId} {h0 : Nat} {a0 : Nat → Nat} {AR : Array Value} (C : (dc_C p s m AR meth c cTx_splitLine 5 (Option.none : Option Jvm.ClassFile.FieldType) yTx_splitLine ∧ cf_E D K A s s.heap ∧ ∀ q, s.heap.size ≤ q → A q)) {n : Nat} (ih : IhTx_splitLine p l e s m below meth c A D K h0 a0 AR n) (v1 : Int32) (v2 : Int32) (v3 : Int32) (o0 : cf_O) (r : cf_O) (h : fTx_splitLine_73 (gTx_splitLine n) v1 v2 v3 o0 = some r) {H : Heap} {locs : List Loc} {ls : Array Slot} (hP : va_P D vwCl (wTx K h0 a0 o0) H) (hD : va_D A (wTx K h0 a0 o0)) (hS : va_S A s.heap H locs) (hl : lv_has ls 5 [(0, .ref h0), (1, .int v1), (2, .int v2), (3, .int v3)]) : W p l e ({ frames := 0, cells := 0, slots := 0, locals := 0 }) s m AR below meth c H locs 0 0 (MQ below (va_Qv (fun (_ : Unit) => True) (fun (_ : Unit) t => cf_At D A (wTx K h0 a0 r) t) A) AR s 0 0 A) (F0 m 73 ls []) := by
  obtain ⟨⟨hx, hb, hr, hts, hown, hlocks, hin, hml⟩, hE, hA⟩ := id C
  have hK := hE.k
  refine lv_iconst (v := 0) hx hb dTx_splitLine_73 (by decide) ?_
  exact bTx_splitLine_74 C ih _ _ _ _ _ _ h hP hD hS (lv_sub hl [0, 1, 2, 3] rfl)
set_option maxHeartbeats 4000000 in
set_option maxRecDepth 100000 in
theorem bTx_splitLine_53 {p : Program} {l : Launch} {e : Env} {s : State} {m : MethodId} {below : List Frame} {meth : Method} {c : Code} {A : Nat → Prop} {D : va_G} {K : Nat → ClassId} {h0 : Nat} {a0 : Nat → Nat} {AR : Array Value} (C : (dc_C p s m AR meth c cTx_splitLine 5 (Option.none : Option Jvm.ClassFile.FieldType) yTx_splitLine ∧ cf_E D K A s s.heap ∧ ∀ q, s.heap.size ≤ q → A q)) {n : Nat} (ih : IhTx_splitLine p l e s m below meth c A D K h0 a0 AR n) (v2 : Int32) (v3 : Int32) (s0 : Int32) (o0 : cf_O) (r : cf_O) (h : fTx_splitLine_53 (gTx_splitLine n) v2 v3 s0 o0 = some r) {H : Heap} {locs : List Loc} {ls : Array Slot} (hP : va_P D vwCl (wTx K h0 a0 o0) H) (hD : va_D A (wTx K h0 a0 o0)) (hS : va_S A s.heap H locs) (hl : lv_has ls 5 [(0, .ref h0), (2, .int v2), (3, .int v3)]) : W p l e ({ frames := 0, cells := 0, slots := 0, locals := 0 }) s m AR below meth c H locs 0 0 (MQ below (va_Qv (fun (_ : Unit) => True) (fun (_ : Unit) t => cf_At D A (wTx K h0 a0 r) t) A) AR s 0 0 A) (F0 m 53 ls [.int s0]) := by
  obtain ⟨⟨hx, hb, hr, hts, hown, hlocks, hin, hml⟩, hE, hA⟩ := id C
  have hK := hE.k
  refine lv_istore_n (lv' := [(1, .int s0), (0, .ref h0), (2, .int v2), (3, .int v3)]) hx hb dTx_splitLine_53 rfl hl (by decide) rfl (fun ls hl => ?_)
  refine lv_iload_n hx hb dTx_splitLine_54 rfl (lv_at hl 0 rfl) ?_
  refine lv_if_eq (tgt := 73) hx hb dTx_splitLine_55 (by decide) (fun c_1 => ?_) (fun c_1 => ?_)
  · have h := op_t c_1 h
    exact bTx_splitLine_73 C ih _ _ _ _ _ h hP hD hS (lv_sub hl [1, 0, 2, 3] rfl)
  · have h := op_f c_1 h
    refine lv_aload_n hx hb dTx_splitLine_58 rfl (lv_at hl 1 rfl) ?_
    refine va_get (D := D) (ci := 1) (v := .ref (a0 0)) (C := RTx) (T := TTx) (N := 7) hx hb hts inTx hown hK hP 0 rfl rfl 0 (by decide) (hts _ wv_205) (fun _ h9 => h9) rfl dTx_splitLine_59 ?_
    refine lv_iload_n hx hb dTx_splitLine_62 rfl (lv_at hl 3 rfl) ?_
    obtain ⟨hi_2, h⟩ := op_n h
    refine va_bald (D := D) hx hb hK hP 1 2 rfl rfl hi_2 dTx_splitLine_63 ?_
    refine lv_topi (fun x_3 ex_3 => ?_)
    have h := op_ks ex_3 h
    refine lv_bipush (v := 32) hx hb dTx_splitLine_64 (by decide) ?_
    refine lv_icmp_eq (tgt := 73) hx hb dTx_splitLine_66 (by decide) (fun c_4 => ?_) (fun c_4 => ?_)
    · have h := op_t c_4 h
      exact bTx_splitLine_73 C ih _ _ _ _ _ h hP hD hS (lv_sub hl [1, 0, 2, 3] rfl)
    · have h := op_f c_4 h
      refine lv_iconst (v := 1) hx hb dTx_splitLine_69 (by decide) ?_
      refine lv_goto (tgt := 74) hx hb dTx_splitLine_70 (by decide) ?_
      exact bTx_splitLine_74 C ih _ _ _ _ _ _ h hP hD hS (lv_sub hl [1, 0, 2, 3] rfl)
set_option maxHeartbeats 4000000 in
set_option maxRecDepth 100000 in
theorem bTx_splitLine_52 {p : Program} {l : Launch} {e : Env} {s : State} {m : MethodId} {below : List Frame} {meth : Method} {c : Code} {A : Nat → Prop} {D : va_G} {K : Nat → ClassId} {h0 : Nat} {a0 : Nat → Nat} {AR : Array Value} (C : (dc_C p s m AR meth c cTx_splitLine 5 (Option.none : Option Jvm.ClassFile.FieldType) yTx_splitLine ∧ cf_E D K A s s.heap ∧ ∀ q, s.heap.size ≤ q → A q)) {n : Nat} (ih : IhTx_splitLine p l e s m below meth c A D K h0 a0 AR n) (v2 : Int32) (v3 : Int32) (o0 : cf_O) (r : cf_O) (h : fTx_splitLine_52 (gTx_splitLine n) v2 v3 o0 = some r) {H : Heap} {locs : List Loc} {ls : Array Slot} (hP : va_P D vwCl (wTx K h0 a0 o0) H) (hD : va_D A (wTx K h0 a0 o0)) (hS : va_S A s.heap H locs) (hl : lv_has ls 5 [(0, .ref h0), (2, .int v2), (3, .int v3)]) : W p l e ({ frames := 0, cells := 0, slots := 0, locals := 0 }) s m AR below meth c H locs 0 0 (MQ below (va_Qv (fun (_ : Unit) => True) (fun (_ : Unit) t => cf_At D A (wTx K h0 a0 r) t) A) AR s 0 0 A) (F0 m 52 ls []) := by
  obtain ⟨⟨hx, hb, hr, hts, hown, hlocks, hin, hml⟩, hE, hA⟩ := id C
  have hK := hE.k
  refine lv_iconst (v := 0) hx hb dTx_splitLine_52 (by decide) ?_
  exact bTx_splitLine_53 C ih _ _ _ _ _ h hP hD hS (lv_sub hl [0, 1, 2] rfl)
set_option maxHeartbeats 4000000 in
set_option maxRecDepth 100000 in
theorem bTx_splitLine_14 {p : Program} {l : Launch} {e : Env} {s : State} {m : MethodId} {below : List Frame} {meth : Method} {c : Code} {A : Nat → Prop} {D : va_G} {K : Nat → ClassId} {h0 : Nat} {a0 : Nat → Nat} {AR : Array Value} (C : (dc_C p s m AR meth c cTx_splitLine 5 (Option.none : Option Jvm.ClassFile.FieldType) yTx_splitLine ∧ cf_E D K A s s.heap ∧ ∀ q, s.heap.size ≤ q → A q)) {n : Nat} (ih : IhTx_splitLine p l e s m below meth c A D K h0 a0 AR n) (v1 : Int32) (v2 : Int32) (v3 : Int32) (o0 : cf_O) (r : cf_O) (h : fTx_splitLine_14 (gTx_splitLine n) v1 v2 v3 o0 = some r) {H : Heap} {locs : List Loc} {ls : Array Slot} (hP : va_P D vwCl (wTx K h0 a0 o0) H) (hD : va_D A (wTx K h0 a0 o0)) (hS : va_S A s.heap H locs) (hl : lv_has ls 5 [(0, .ref h0), (1, .int v1), (2, .int v2), (3, .int v3)]) : W p l e ({ frames := 0, cells := 0, slots := 0, locals := 0 }) s m AR below meth c H locs 0 0 (MQ below (va_Qv (fun (_ : Unit) => True) (fun (_ : Unit) t => cf_At D A (wTx K h0 a0 r) t) A) AR s 0 0 A) (F0 m 14 ls []) := by
  obtain ⟨⟨hx, hb, hr, hts, hown, hlocks, hin, hml⟩, hE, hA⟩ := id C
  have hK := hE.k
  refine lv_iload_n hx hb dTx_splitLine_14 rfl (lv_at hl 3 rfl) ?_
  refine lv_aload_n hx hb dTx_splitLine_15 rfl (lv_at hl 0 rfl) ?_
  refine va_get (D := D) (ci := 1) (v := .int (o0.1 3)) (C := RTx) (T := TTx) (N := 7) hx hb hts inTx hown hK hP 0 rfl rfl 3 (by decide) (hts _ wv_209) (fun _ h9 => h9) rfl dTx_splitLine_16 ?_
  refine lv_icmp_ge (tgt := 142) hx hb dTx_splitLine_19 (by decide) (fun c_1 => ?_) (fun c_1 => ?_)
  · have h := op_t c_1 h
    exact bTx_splitLine_142 C ih _ _ _ h hP hD hS (lv_sub hl [0, 3] rfl)
  · have h := op_f c_1 h
    refine lv_aload_n hx hb dTx_splitLine_22 rfl (lv_at hl 0 rfl) ?_
    refine va_get (D := D) (ci := 1) (v := .ref (a0 0)) (C := RTx) (T := TTx) (N := 7) hx hb hts inTx hown hK hP 0 rfl rfl 0 (by decide) (hts _ wv_205) (fun _ h9 => h9) rfl dTx_splitLine_23 ?_
    refine lv_iload_n hx hb dTx_splitLine_26 rfl (lv_at hl 3 rfl) ?_
    obtain ⟨hi_2, h⟩ := op_n h
    refine va_bald (D := D) hx hb hK hP 1 2 rfl rfl hi_2 dTx_splitLine_27 ?_
    refine lv_topi (fun x_3 ex_3 => ?_)
    have h := op_ks ex_3 h
    refine lv_bipush (v := 10) hx hb dTx_splitLine_28 (by decide) ?_
    refine lv_icmp_eq (tgt := 142) hx hb dTx_splitLine_30 (by decide) (fun c_4 => ?_) (fun c_4 => ?_)
    · have h := op_t c_4 h
      exact bTx_splitLine_142 C ih _ _ _ h hP hD hS (lv_sub hl [0, 3] rfl)
    · have h := op_f c_4 h
      refine lv_iload_n hx hb dTx_splitLine_33 rfl (lv_at hl 1 rfl) ?_
      refine lv_if_eq (tgt := 52) hx hb dTx_splitLine_34 (by decide) (fun c_5 => ?_) (fun c_5 => ?_)
      · have h := op_t c_5 h
        exact bTx_splitLine_52 C ih _ _ _ _ h hP hD hS (lv_sub hl [0, 2, 3] rfl)
      · have h := op_f c_5 h
        refine lv_aload_n hx hb dTx_splitLine_37 rfl (lv_at hl 0 rfl) ?_
        refine va_get (D := D) (ci := 1) (v := .ref (a0 0)) (C := RTx) (T := TTx) (N := 7) hx hb hts inTx hown hK hP 0 rfl rfl 0 (by decide) (hts _ wv_205) (fun _ h9 => h9) rfl dTx_splitLine_38 ?_
        refine lv_iload_n hx hb dTx_splitLine_41 rfl (lv_at hl 3 rfl) ?_
        obtain ⟨hi_6, h⟩ := op_n h
        refine va_bald (D := D) hx hb hK hP 1 2 rfl rfl hi_6 dTx_splitLine_42 ?_
        refine lv_topi (fun x_7 ex_7 => ?_)
        have h := op_ks ex_7 h
        refine lv_bipush (v := 35) hx hb dTx_splitLine_43 (by decide) ?_
        refine lv_icmp_eq (tgt := 52) hx hb dTx_splitLine_45 (by decide) (fun c_8 => ?_) (fun c_8 => ?_)
        · have h := op_t c_8 h
          exact bTx_splitLine_52 C ih _ _ _ _ h hP hD hS (lv_sub hl [0, 2, 3] rfl)
        · have h := op_f c_8 h
          refine lv_iconst (v := 1) hx hb dTx_splitLine_48 (by decide) ?_
          refine lv_goto (tgt := 53) hx hb dTx_splitLine_49 (by decide) ?_
          exact bTx_splitLine_53 C ih _ _ _ _ _ h hP hD hS (lv_sub hl [0, 2, 3] rfl)
set_option maxHeartbeats 4000000 in
set_option maxRecDepth 100000 in
theorem bTx_splitLine_0 {p : Program} {l : Launch} {e : Env} {s : State} {m : MethodId} {below : List Frame} {meth : Method} {c : Code} {A : Nat → Prop} {D : va_G} {K : Nat → ClassId} {h0 : Nat} {a0 : Nat → Nat} {AR : Array Value} (C : (dc_C p s m AR meth c cTx_splitLine 5 (Option.none : Option Jvm.ClassFile.FieldType) yTx_splitLine ∧ cf_E D K A s s.heap ∧ ∀ q, s.heap.size ≤ q → A q)) {n : Nat} (ih : IhTx_splitLine p l e s m below meth c A D K h0 a0 AR n) (o0 : cf_O) (r : cf_O) (h : fTx_splitLine_0 (gTx_splitLine n) o0 = some r) {H : Heap} {locs : List Loc} {ls : Array Slot} (hP : va_P D vwCl (wTx K h0 a0 o0) H) (hD : va_D A (wTx K h0 a0 o0)) (hS : va_S A s.heap H locs) (hl : lv_has ls 5 [(0, .ref h0)]) : W p l e ({ frames := 0, cells := 0, slots := 0, locals := 0 }) s m AR below meth c H locs 0 0 (MQ below (va_Qv (fun (_ : Unit) => True) (fun (_ : Unit) t => cf_At D A (wTx K h0 a0 r) t) A) AR s 0 0 A) (F0 m 0 ls []) := by
  obtain ⟨⟨hx, hb, hr, hts, hown, hlocks, hin, hml⟩, hE, hA⟩ := id C
  have hK := hE.k
  refine lv_iconst (v := 1) hx hb dTx_splitLine_0 (by decide) ?_
  refine lv_istore_n (lv' := [(1, .int 1), (0, .ref h0)]) hx hb dTx_splitLine_1 rfl hl (by decide) rfl (fun ls hl => ?_)
  refine lv_iconst (v := 0) hx hb dTx_splitLine_2 (by decide) ?_
  refine lv_istore_n (lv' := [(2, .int 0), (1, .int 1), (0, .ref h0)]) hx hb dTx_splitLine_3 rfl hl (by decide) rfl (fun ls hl => ?_)
  refine lv_aload_n hx hb dTx_splitLine_4 rfl (lv_at hl 2 rfl) ?_
  refine va_get (D := D) (ci := 1) (v := .int (o0.1 6)) (C := RTx) (T := TTx) (N := 7) hx hb hts inTx hown hK hP 0 rfl rfl 6 (by decide) (hts _ wv_216) (fun _ h9 => h9) rfl dTx_splitLine_5 ?_
  refine lv_istore_n (lv' := [(3, .int (o0.1 6)), (2, .int 0), (1, .int 1), (0, .ref h0)]) hx hb dTx_splitLine_8 rfl hl (by decide) rfl (fun ls hl => ?_)
  refine lv_aload_n hx hb dTx_splitLine_9 rfl (lv_at hl 3 rfl) ?_
  refine lv_iconst (v := 0) hx hb dTx_splitLine_10 (by decide) ?_
  refine va_put (D := D) (ci := 1) (v := .int 0) (ty := .int) (C := RTx) (T := TTx) (N := 7) hx hb hts inTx tyTx tyokTx nmTx hown hK hP hD hS 0 rfl rfl 5 (by decide) (hts _ wv_215) (fun _ h9 => h9) rfl (by decide +kernel) rfl rfl (Nat.le_of_ble_eq_true rfl) dTx_splitLine_11 (fun H locs hP hD hS => ?_)
  have hP : va_P D vwCl (wTx K h0 a0 (fp o0 5 0)) H := hP
  have hD : va_D A (wTx K h0 a0 (fp o0 5 0)) := hD
  obtain ⟨o_1, eo_1, h⟩ := op_kx h
  rw [← eo_1] at hP hD
  exact (ih) _ _ _ _ _ h hP hD hS (lv_sub hl [3, 2, 1, 0] rfl)
theorem iTx_splitLine {p : Program} {l : Launch} {e : Env} {s : State} {m : MethodId} {below : List Frame} {meth : Method} {c : Code} {A : Nat → Prop} {D : va_G} {K : Nat → ClassId} {h0 : Nat} {a0 : Nat → Nat} {AR : Array Value} (C : (dc_C p s m AR meth c cTx_splitLine 5 (Option.none : Option Jvm.ClassFile.FieldType) yTx_splitLine ∧ cf_E D K A s s.heap ∧ ∀ q, s.heap.size ≤ q → A q)) : ∀ n, IhTx_splitLine p l e s m below meth c A D K h0 a0 AR n := by
  intro n
  induction n with
  | zero => exact (fun _ _ _ _ r h => by cases (show none = some r from h))
  | succ n ih => exact fun x0 x1 x2 x3 r h _ _ _ hP hD hS hl => bTx_splitLine_14 C ih x0 x1 x2 x3 r h hP hD hS hl
set_option maxRecDepth 100000 in
theorem mTx_splitLine (l : Launch) (D : va_G) (K : Nat → ClassId) (sz : Nat) (h0 : Nat) (a0 : Nat → Nat) (o0 : cf_O) (r : cf_O) (h : fTx_splitLine o0 = some r) : Met l yTx_splitLine (Cond.code yTx_splitLine cTx_splitLine 5 (Option.none : Option Jvm.ClassFile.FieldType) :: cfB) ({ frames := 0, cells := 0, slots := 0, locals := 0 }) (va_Pc [.ref h0] (cf_Pre D K sz (wTx K h0 a0 o0))) (va_Qv (fun (_ : Unit) => True) (fun (_ : Unit) t => cf_At D (va_A (wTx K h0 a0 o0) sz) (wTx K h0 a0 r) t) (va_A (wTx K h0 a0 o0) sz)) 0 0 (va_A (wTx K h0 a0 o0) sz) := by
  refine cf_ofW (y := yTx_splitLine) (As := [.ref h0]) (WS := wTx K h0 a0 o0) (maxL := 5) (fun A => (va_Qv (fun (_ : Unit) => True) (fun (_ : Unit) t => cf_At D A (wTx K h0 a0 r) t) A)) (by decide) (Nat.le_of_ble_eq_true rfl) ?_
  intro p e s m below meth c A ls En hsz hA hP hD hE hS hl
  have C : (dc_C p s m (([.ref h0] : List Value).toArray) meth c cTx_splitLine 5 (Option.none : Option Jvm.ClassFile.FieldType) yTx_splitLine ∧ cf_E D K A s s.heap ∧ ∀ q, s.heap.size ≤ q → A q) := ⟨En, hE, hA⟩
  exact bTx_splitLine_0 C (iTx_splitLine C cfFU) o0 r h hP hD hS hl
def IhTx_toNextLine (p : Program) (l : Launch) (e : Env) (s : State) (m : MethodId) (below : List Frame) (meth : Method) (c : Code) (A : Nat → Prop) (D : va_G) (K : Nat → ClassId) (h0 : Nat) (a0 : Nat → Nat) (AR : Array Value) (n : Nat) : Prop := (∀ (v1 : Int32) (o0 : cf_O) (r : Int32 × cf_O), gTx_toNextLine n 0 v1 o0 = some r → ∀ {H : Heap} {locs : List Loc} {ls : Array Slot}, (va_P D vwCl (wTx K h0 a0 o0) H) → (va_D A (wTx K h0 a0 o0)) → va_S A s.heap H locs → lv_has ls 2 [(0, .ref h0), (1, .int v1)] → W p l e ({ frames := 1, cells := 0, slots := 0, locals := 24 }) s m AR below meth c H locs 0 0 (MQ below (va_Qi (fun (x : Int32) (_ : Unit) => x = r.1) (fun (_ : Unit) t => cf_At D A (wTx K h0 a0 r.2) t) A) AR s 0 0 A) (F0 m 2 ls []))
set_option maxHeartbeats 4000000 in
set_option maxRecDepth 100000 in
theorem bTx_toNextLine_49 {p : Program} {l : Launch} {e : Env} {s : State} {m : MethodId} {below : List Frame} {meth : Method} {c : Code} {A : Nat → Prop} {D : va_G} {K : Nat → ClassId} {h0 : Nat} {a0 : Nat → Nat} {AR : Array Value} (C : (dc_C p s m AR meth c cTx_toNextLine 2 (Option.some Jvm.ClassFile.FieldType.boolean) yTx_toNextLine ∧ cf_E D K A s s.heap ∧ ∀ q, s.heap.size ≤ q → A q)) {n : Nat} (ih : IhTx_toNextLine p l e s m below meth c A D K h0 a0 AR n) (o0 : cf_O) (r : Int32 × cf_O) (h : fTx_toNextLine_49 (gTx_toNextLine n) o0 = some r) {H : Heap} {locs : List Loc} {ls : Array Slot} (hP : va_P D vwCl (wTx K h0 a0 o0) H) (hD : va_D A (wTx K h0 a0 o0)) (hS : va_S A s.heap H locs) (hl : lv_has ls 2 [(0, .ref h0)]) : W p l e ({ frames := 1, cells := 0, slots := 0, locals := 24 }) s m AR below meth c H locs 0 0 (MQ below (va_Qi (fun (x : Int32) (_ : Unit) => x = r.1) (fun (_ : Unit) t => cf_At D A (wTx K h0 a0 r.2) t) A) AR s 0 0 A) (F0 m 49 ls []) := by
  obtain ⟨⟨hx, hb, hr, hts, hown, hlocks, hin, hml⟩, hE, hA⟩ := id C
  have hK := hE.k
  refine lv_aload_n hx hb dTx_toNextLine_49 rfl (lv_at hl 0 rfl) ?_
  refine lv_dup hx hb dTx_toNextLine_50 rfl ?_
  refine va_get (D := D) (ci := 1) (v := .int (o0.1 4)) (C := RTx) (T := TTx) (N := 7) hx hb hts inTx hown hK hP 0 rfl rfl 4 (by decide) (hts _ wv_211) (fun _ h9 => h9) rfl dTx_toNextLine_51 ?_
  refine lv_iconst (v := 1) hx hb dTx_toNextLine_54 (by decide) ?_
  refine lv_iadd hx hb dTx_toNextLine_55 ?_
  refine lv_topi (fun x_1 ex_1 => ?_)
  have h := op_ks ex_1 h
  refine va_put (D := D) (ci := 1) (v := .int x_1) (ty := .int) (C := RTx) (T := TTx) (N := 7) hx hb hts inTx tyTx tyokTx nmTx hown hK hP hD hS 0 rfl rfl 4 (by decide) (hts _ wv_211) (fun _ h9 => h9) rfl (by decide +kernel) rfl rfl (Nat.le_of_ble_eq_true rfl) dTx_toNextLine_56 (fun H locs hP hD hS => ?_)
  have hP : va_P D vwCl (wTx K h0 a0 (fp o0 4 x_1)) H := hP
  have hD : va_D A (wTx K h0 a0 (fp o0 4 x_1)) := hD
  obtain ⟨o_2, eo_2, h⟩ := op_kx h
  rw [← eo_2] at hP hD
  refine lv_iconst (v := 0) hx hb dTx_toNextLine_59 (by decide) ?_
  obtain rfl := Option.some.inj h
  exact dc_zret hx hb hr rfl hlocks rfl hP hD hS dTx_toNextLine_60
set_option maxHeartbeats 4000000 in
set_option maxRecDepth 100000 in
theorem bTx_toNextLine_2 {p : Program} {l : Launch} {e : Env} {s : State} {m : MethodId} {below : List Frame} {meth : Method} {c : Code} {A : Nat → Prop} {D : va_G} {K : Nat → ClassId} {h0 : Nat} {a0 : Nat → Nat} {AR : Array Value} (C : (dc_C p s m AR meth c cTx_toNextLine 2 (Option.some Jvm.ClassFile.FieldType.boolean) yTx_toNextLine ∧ cf_E D K A s s.heap ∧ ∀ q, s.heap.size ≤ q → A q)) {n : Nat} (ih : IhTx_toNextLine p l e s m below meth c A D K h0 a0 AR n) (v1 : Int32) (o0 : cf_O) (r : Int32 × cf_O) (h : fTx_toNextLine_2 (gTx_toNextLine n) v1 o0 = some r) {H : Heap} {locs : List Loc} {ls : Array Slot} (hP : va_P D vwCl (wTx K h0 a0 o0) H) (hD : va_D A (wTx K h0 a0 o0)) (hS : va_S A s.heap H locs) (hl : lv_has ls 2 [(0, .ref h0), (1, .int v1)]) : W p l e ({ frames := 1, cells := 0, slots := 0, locals := 24 }) s m AR below meth c H locs 0 0 (MQ below (va_Qi (fun (x : Int32) (_ : Unit) => x = r.1) (fun (_ : Unit) t => cf_At D A (wTx K h0 a0 r.2) t) A) AR s 0 0 A) (F0 m 2 ls []) := by
  obtain ⟨⟨hx, hb, hr, hts, hown, hlocks, hin, hml⟩, hE, hA⟩ := id C
  have hK := hE.k
  refine lv_iload_n hx hb dTx_toNextLine_2 rfl (lv_at hl 1 rfl) ?_
  refine lv_sipush (v := 1600) hx hb dTx_toNextLine_3 (by decide) ?_
  refine lv_icmp_gt (tgt := 49) hx hb dTx_toNextLine_6 (by decide) (fun c_1 => ?_) (fun c_1 => ?_)
  · have h := op_t c_1 h
    exact bTx_toNextLine_49 C ih _ _ h hP hD hS (lv_sub hl [0] rfl)
  · have h := op_f c_1 h
    refine lv_aload_n hx hb dTx_toNextLine_9 rfl (lv_at hl 0 rfl) ?_
    refine va_get (D := D) (ci := 1) (v := .int (o0.1 6)) (C := RTx) (T := TTx) (N := 7) hx hb hts inTx hown hK hP 0 rfl rfl 6 (by decide) (hts _ wv_216) (fun _ h9 => h9) rfl dTx_toNextLine_10 ?_
    refine lv_aload_n hx hb dTx_toNextLine_13 rfl (lv_at hl 0 rfl) ?_
    refine va_get (D := D) (ci := 1) (v := .int (o0.1 3)) (C := RTx) (T := TTx) (N := 7) hx hb hts inTx hown hK hP 0 rfl rfl 3 (by decide) (hts _ wv_209) (fun _ h9 => h9) rfl dTx_toNextLine_14 ?_
    refine lv_icmp_gt (tgt := 49) hx hb dTx_toNextLine_17 (by decide) (fun c_2 => ?_) (fun c_2 => ?_)
    · have h := op_t c_2 h
      exact bTx_toNextLine_49 C ih _ _ h hP hD hS (lv_sub hl [0] rfl)
    · have h := op_f c_2 h
      refine lv_aload_n hx hb dTx_toNextLine_20 rfl (lv_at hl 0 rfl) ?_
      refine lv_dup hx hb dTx_toNextLine_21 rfl ?_
      refine va_get (D := D) (ci := 1) (v := .int (o0.1 4)) (C := RTx) (T := TTx) (N := 7) hx hb hts inTx hown hK hP 0 rfl rfl 4 (by decide) (hts _ wv_211) (fun _ h9 => h9) rfl dTx_toNextLine_22 ?_
      refine lv_iconst (v := 1) hx hb dTx_toNextLine_25 (by decide) ?_
      refine lv_iadd hx hb dTx_toNextLine_26 ?_
      refine lv_topi (fun x_3 ex_3 => ?_)
      have h := op_ks ex_3 h
      refine va_put (D := D) (ci := 1) (v := .int x_3) (ty := .int) (C := RTx) (T := TTx) (N := 7) hx hb hts inTx tyTx tyokTx nmTx hown hK hP hD hS 0 rfl rfl 4 (by decide) (hts _ wv_211) (fun _ h9 => h9) rfl (by decide +kernel) rfl rfl (Nat.le_of_ble_eq_true rfl) dTx_toNextLine_27 (fun H locs hP hD hS => ?_)
      have hP : va_P D vwCl (wTx K h0 a0 (fp o0 4 x_3)) H := hP
      have hD : va_D A (wTx K h0 a0 (fp o0 4 x_3)) := hD
      obtain ⟨o_4, eo_4, h⟩ := op_kx h
      rw [← eo_4] at hP hD
      refine lv_aload_n hx hb dTx_toNextLine_30 rfl (lv_at hl 0 rfl) ?_
      obtain ⟨q_5, hq_5, h⟩ := op_b h
      refine dc_callv (va_runV (As := []) (rest := []) ⟨hx, hb, hml, hown, hts⟩ (mTx_splitLine l D K _ h0 a0 o_4 _ hq_5) (cwV 0 hts (cf_GV wv_739 wv_741 wv_0 wv_158 wv_742) rfl rfl rfl (by decide +kernel) ⟨Nat.le_of_ble_eq_true rfl, Nat.le_of_ble_eq_true rfl⟩) (dc_preV hE hP hD hS hA rfl 0 rfl) rfl rfl hl.1 rfl (lv_room (Nat.le_of_ble_eq_true rfl)) dTx_toNextLine_31 ⟨Nat.le_of_ble_eq_true rfl, Nat.le_of_ble_eq_true rfl⟩) hP hD hS hA (fun H locs hP hD hS => ?_)
      refine lv_aload_n hx hb dTx_toNextLine_34 rfl (lv_at hl 0 rfl) ?_
      refine va_get (D := D) (ci := 1) (v := .int (q_5.1 5)) (C := RTx) (T := TTx) (N := 7) hx hb hts inTx hown hK hP 0 rfl rfl 5 (by decide) (hts _ wv_215) (fun _ h9 => h9) rfl dTx_toNextLine_35 ?_
      refine lv_if_le (tgt := 43) hx hb dTx_toNextLine_38 (by decide) (fun c_7 => ?_) (fun c_7 => ?_)
      · have h := op_t c_7 h
        obtain ⟨x_8, ex_8⟩ : ∃ y : Int32, y = v1 + 1 := ⟨_, rfl⟩
        refine lv_iinc (v := x_8) (lv' := [(1, .int x_8), (0, .ref h0)]) hx hb dTx_toNextLine_43 hl (k := 1) rfl (by rw [ex_8]; rfl) (by decide) rfl (fun ls hl => ?_)
        have h := op_ks ex_8 h
        refine lv_goto (tgt := 2) hx hb dTx_toNextLine_46 (by decide) ?_
        exact (ih) _ _ _ h hP hD hS (lv_sub hl [1, 0] rfl)
      · have h := op_f c_7 h
        refine lv_iconst (v := 1) hx hb dTx_toNextLine_41 (by decide) ?_
        obtain rfl := Option.some.inj h
        exact dc_zret hx hb hr rfl hlocks rfl hP hD hS dTx_toNextLine_42
set_option maxHeartbeats 4000000 in
set_option maxRecDepth 100000 in
theorem bTx_toNextLine_0 {p : Program} {l : Launch} {e : Env} {s : State} {m : MethodId} {below : List Frame} {meth : Method} {c : Code} {A : Nat → Prop} {D : va_G} {K : Nat → ClassId} {h0 : Nat} {a0 : Nat → Nat} {AR : Array Value} (C : (dc_C p s m AR meth c cTx_toNextLine 2 (Option.some Jvm.ClassFile.FieldType.boolean) yTx_toNextLine ∧ cf_E D K A s s.heap ∧ ∀ q, s.heap.size ≤ q → A q)) {n : Nat} (ih : IhTx_toNextLine p l e s m below meth c A D K h0 a0 AR n) (o0 : cf_O) (r : Int32 × cf_O) (h : fTx_toNextLine_0 (gTx_toNextLine n) o0 = some r) {H : Heap} {locs : List Loc} {ls : Array Slot} (hP : va_P D vwCl (wTx K h0 a0 o0) H) (hD : va_D A (wTx K h0 a0 o0)) (hS : va_S A s.heap H locs) (hl : lv_has ls 2 [(0, .ref h0)]) : W p l e ({ frames := 1, cells := 0, slots := 0, locals := 24 }) s m AR below meth c H locs 0 0 (MQ below (va_Qi (fun (x : Int32) (_ : Unit) => x = r.1) (fun (_ : Unit) t => cf_At D A (wTx K h0 a0 r.2) t) A) AR s 0 0 A) (F0 m 0 ls []) := by
  obtain ⟨⟨hx, hb, hr, hts, hown, hlocks, hin, hml⟩, hE, hA⟩ := id C
  have hK := hE.k
  refine lv_iconst (v := 0) hx hb dTx_toNextLine_0 (by decide) ?_
  refine lv_istore_n (lv' := [(1, .int 0), (0, .ref h0)]) hx hb dTx_toNextLine_1 rfl hl (by decide) rfl (fun ls hl => ?_)
  exact (ih) _ _ _ h hP hD hS (lv_sub hl [1, 0] rfl)
theorem iTx_toNextLine {p : Program} {l : Launch} {e : Env} {s : State} {m : MethodId} {below : List Frame} {meth : Method} {c : Code} {A : Nat → Prop} {D : va_G} {K : Nat → ClassId} {h0 : Nat} {a0 : Nat → Nat} {AR : Array Value} (C : (dc_C p s m AR meth c cTx_toNextLine 2 (Option.some Jvm.ClassFile.FieldType.boolean) yTx_toNextLine ∧ cf_E D K A s s.heap ∧ ∀ q, s.heap.size ≤ q → A q)) : ∀ n, IhTx_toNextLine p l e s m below meth c A D K h0 a0 AR n := by
  intro n
  induction n with
  | zero => exact (fun _ _ r h => by cases (show none = some r from h))
  | succ n ih => exact fun x0 x1 r h _ _ _ hP hD hS hl => bTx_toNextLine_2 C ih x0 x1 r h hP hD hS hl
set_option maxRecDepth 100000 in
theorem mTx_toNextLine (l : Launch) (D : va_G) (K : Nat → ClassId) (sz : Nat) (h0 : Nat) (a0 : Nat → Nat) (o0 : cf_O) (r : Int32 × cf_O) (h : fTx_toNextLine o0 = some r) : Met l yTx_toNextLine (Cond.code yTx_toNextLine cTx_toNextLine 2 (Option.some Jvm.ClassFile.FieldType.boolean) :: cfB) ({ frames := 1, cells := 0, slots := 0, locals := 24 }) (va_Pc [.ref h0] (cf_Pre D K sz (wTx K h0 a0 o0))) (va_Qi (fun (x : Int32) (_ : Unit) => x = r.1) (fun (_ : Unit) t => cf_At D (va_A (wTx K h0 a0 o0) sz) (wTx K h0 a0 r.2) t) (va_A (wTx K h0 a0 o0) sz)) 0 0 (va_A (wTx K h0 a0 o0) sz) := by
  refine cf_ofW (y := yTx_toNextLine) (As := [.ref h0]) (WS := wTx K h0 a0 o0) (maxL := 2) (fun A => (va_Qi (fun (x : Int32) (_ : Unit) => x = r.1) (fun (_ : Unit) t => cf_At D A (wTx K h0 a0 r.2) t) A)) (by decide) (Nat.le_of_ble_eq_true rfl) ?_
  intro p e s m below meth c A ls En hsz hA hP hD hE hS hl
  have C : (dc_C p s m (([.ref h0] : List Value).toArray) meth c cTx_toNextLine 2 (Option.some Jvm.ClassFile.FieldType.boolean) yTx_toNextLine ∧ cf_E D K A s s.heap ∧ ∀ q, s.heap.size ≤ q → A q) := ⟨En, hE, hA⟩
  exact bTx_toNextLine_0 C (iTx_toNextLine C cfFU) o0 r h hP hD hS hl
set_option maxHeartbeats 4000000 in
set_option maxRecDepth 100000 in
theorem bTx_length_0 {p : Program} {l : Launch} {e : Env} {s : State} {m : MethodId} {below : List Frame} {meth : Method} {c : Code} {A : Nat → Prop} {D : va_G} {K : Nat → ClassId} {h0 : Nat} {a0 : Nat → Nat} {AR : Array Value} (C : (dc_C p s m AR meth c cTx_length 2 (Option.some Jvm.ClassFile.FieldType.int) yTx_length ∧ cf_E D K A s s.heap ∧ ∀ q, s.heap.size ≤ q → A q)) (v1 : Int32) (o0 : cf_O) (r : Int32) (h : fTx_length_0 v1 o0 = some r) {H : Heap} {locs : List Loc} {ls : Array Slot} (hP : va_P D vwCl (wTx K h0 a0 o0) H) (hD : va_D A (wTx K h0 a0 o0)) (hS : va_S A s.heap H locs) (hl : lv_has ls 2 [(0, .ref h0), (1, .int v1)]) : W p l e ({ frames := 0, cells := 0, slots := 0, locals := 0 }) s m AR below meth c H locs 0 0 (MQ below (va_Qi (fun (x : Int32) (_ : Unit) => x = r) (fun (_ : Unit) t => cf_At D A (wTx K h0 a0 o0) t) A) AR s 0 0 A) (F0 m 0 ls []) := by
  obtain ⟨⟨hx, hb, hr, hts, hown, hlocks, hin, hml⟩, hE, hA⟩ := id C
  have hK := hE.k
  refine lv_aload_n hx hb dTx_length_0 rfl (lv_at hl 0 rfl) ?_
  refine va_get (D := D) (ci := 1) (v := .ref (a0 2)) (C := RTx) (T := TTx) (N := 7) hx hb hts inTx hown hK hP 0 rfl rfl 2 (by decide) (hts _ wv_207) (fun _ h9 => h9) rfl dTx_length_1 ?_
  refine lv_iload_n hx hb dTx_length_4 rfl (lv_at hl 1 rfl) ?_
  obtain ⟨hi_1, h⟩ := op_n h
  refine va_iald (D := D) hx hb hK hP 3 0 rfl rfl hi_1 dTx_length_5 ?_
  refine lv_topi (fun x_2 ex_2 => ?_)
  have h := op_ks ex_2 h
  refine lv_aload_n hx hb dTx_length_6 rfl (lv_at hl 0 rfl) ?_
  refine va_get (D := D) (ci := 1) (v := .ref (a0 1)) (C := RTx) (T := TTx) (N := 7) hx hb hts inTx hown hK hP 0 rfl rfl 1 (by decide) (hts _ wv_206) (fun _ h9 => h9) rfl dTx_length_7 ?_
  refine lv_iload_n hx hb dTx_length_10 rfl (lv_at hl 1 rfl) ?_
  obtain ⟨hi_3, h⟩ := op_n h
  refine va_iald (D := D) hx hb hK hP 2 0 rfl rfl hi_3 dTx_length_11 ?_
  refine lv_topi (fun x_4 ex_4 => ?_)
  have h := op_ks ex_4 h
  refine lv_isub hx hb dTx_length_12 ?_
  refine lv_topi (fun x_5 ex_5 => ?_)
  have h := op_ks ex_5 h
  obtain rfl := Option.some.inj h
  exact dc_iret hx hb hr hlocks rfl hP hD hS dTx_length_13
set_option maxRecDepth 100000 in
theorem mTx_length (l : Launch) (D : va_G) (K : Nat → ClassId) (sz : Nat) (v1 : Int32) (h0 : Nat) (a0 : Nat → Nat) (o0 : cf_O) (r : Int32) (h : fTx_length v1 o0 = some r) : Met l yTx_length (Cond.code yTx_length cTx_length 2 (Option.some Jvm.ClassFile.FieldType.int) :: cfB) ({ frames := 0, cells := 0, slots := 0, locals := 0 }) (va_Pc [.ref h0, .int v1] (cf_Pre D K sz (wTx K h0 a0 o0))) (va_Qi (fun (x : Int32) (_ : Unit) => x = r) (fun (_ : Unit) t => cf_At D (va_A (wTx K h0 a0 o0) sz) (wTx K h0 a0 o0) t) (va_A (wTx K h0 a0 o0) sz)) 0 0 (va_A (wTx K h0 a0 o0) sz) := by
  refine cf_ofW (y := yTx_length) (As := [.ref h0, .int v1]) (WS := wTx K h0 a0 o0) (maxL := 2) (fun A => (va_Qi (fun (x : Int32) (_ : Unit) => x = r) (fun (_ : Unit) t => cf_At D A (wTx K h0 a0 o0) t) A)) (by decide) (Nat.le_of_ble_eq_true rfl) ?_
  intro p e s m below meth c A ls En hsz hA hP hD hE hS hl
  have C : (dc_C p s m (([.ref h0, .int v1] : List Value).toArray) meth c cTx_length 2 (Option.some Jvm.ClassFile.FieldType.int) yTx_length ∧ cf_E D K A s s.heap ∧ ∀ q, s.heap.size ≤ q → A q) := ⟨En, hE, hA⟩
  exact bTx_length_0 C v1 o0 r h hP hD hS hl
set_option maxHeartbeats 4000000 in
set_option maxRecDepth 100000 in
theorem bJString_coder__S0_14 {p : Program} {l : Launch} {e : Env} {s : State} {m : MethodId} {below : List Frame} {meth : Method} {c : Code} {A : Nat → Prop} {D : va_G} {K : Nat → ClassId} {AR : Array Value} (C : (dc_C p s m AR meth c cJString_coder_ 1 (Option.some Jvm.ClassFile.FieldType.byte) yJString_coder_ ∧ cf_E D K A s s.heap ∧ ∀ q, s.heap.size ≤ q → A q)) (s0 : Int32) (r : Int32) (h : fJString_coder__S0_14 s0 = some r) {H : Heap} {locs : List Loc} {ls : Array Slot} (hP : va_P D vwCl ([]) H) (hD : va_D A ([])) (hS : va_S A s.heap H locs) (hl : lv_has ls 1 []) : W p l e ({ frames := 0, cells := 0, slots := 0, locals := 0 }) s m AR below meth c H locs 0 0 (MQ below (va_Qi (fun (x : Int32) (_ : Unit) => x = r) (fun (_ : Unit) t => cf_At D A ([]) t) A) AR s 0 0 A) (F0 m 14 ls [.int s0]) := by
  obtain ⟨⟨hx, hb, hr, hts, hown, hlocks, hin, hml⟩, hE, hA⟩ := id C
  have hK := hE.k
  obtain ⟨hz_1, h⟩ := op_w h
  obtain rfl := Option.some.inj h
  exact dc_zretn hx hb hr (op_nb hz_1) hlocks rfl hP hD hS dJString_coder__14
set_option maxHeartbeats 4000000 in
set_option maxRecDepth 100000 in
theorem bJString_coder__S0_0 {p : Program} {l : Launch} {e : Env} {s : State} {m : MethodId} {below : List Frame} {meth : Method} {c : Code} {A : Nat → Prop} {D : va_G} {K : Nat → ClassId} {AR : Array Value} (C : (dc_C p s m AR meth c cJString_coder_ 1 (Option.some Jvm.ClassFile.FieldType.byte) yJString_coder_ ∧ cf_E D K A s s.heap ∧ ∀ q, s.heap.size ≤ q → A q)) (r : Int32) (h : fJString_coder__S0_0 = some r) {H : Heap} {locs : List Loc} {ls : Array Slot} (hP : va_P D vwCl ([]) H) (hD : va_D A ([])) (hS : va_S A s.heap H locs) (hl : lv_has ls 1 [(0, .ref (K 100))]) : W p l e ({ frames := 0, cells := 0, slots := 0, locals := 0 }) s m AR below meth c H locs 0 0 (MQ below (va_Qi (fun (x : Int32) (_ : Unit) => x = r) (fun (_ : Unit) t => cf_At D A ([]) t) A) AR s 0 0 A) (F0 m 0 ls []) := by
  obtain ⟨⟨hx, hb, hr, hts, hown, hlocks, hin, hml⟩, hE, hA⟩ := id C
  have hK := hE.k
  refine va_gets hx hb hE.2.2.2.2.2.2.1 hS hown (hts _ wv_764) (fun _ h9 => h9) dJString_coder__0 ?_
  refine lv_if_eq (tgt := 13) hx hb dJString_coder__3 (by decide) (fun c_1 => absurd c_1 (by decide)) (fun _ => ?_)
  refine lv_aload_n hx hb dJString_coder__6 rfl (lv_at hl 0 rfl) ?_
  refine vk_getf hx hb (hE.s 0 rfl).2.2.1 hS hown (hts _ wv_1736) (fun _ h9 => h9) dJString_coder__7 ?_
  refine lv_goto (tgt := 14) hx hb dJString_coder__10 (by decide) ?_
  exact bJString_coder__S0_14 C _ _ h hP hD hS (lv_sub hl [] rfl)
set_option maxRecDepth 100000 in
theorem mJString_coder__S0 (l : Launch) (D : va_G) (K : Nat → ClassId) (sz : Nat) (r : Int32) (h : fJString_coder__S0 = some r) : Met l yJString_coder_ (Cond.code yJString_coder_ cJString_coder_ 1 (Option.some Jvm.ClassFile.FieldType.byte) :: cfB) ({ frames := 0, cells := 0, slots := 0, locals := 0 }) (va_Pc [.ref (K 100)] (cf_Pre D K sz ([]))) (va_Qi (fun (x : Int32) (_ : Unit) => x = r) (fun (_ : Unit) t => cf_At D (va_A ([]) sz) ([]) t) (va_A ([]) sz)) 0 0 (va_A ([]) sz) := by
  refine cf_ofW (y := yJString_coder_) (As := [.ref (K 100)]) (WS := []) (maxL := 1) (fun A => (va_Qi (fun (x : Int32) (_ : Unit) => x = r) (fun (_ : Unit) t => cf_At D A ([]) t) A)) (by decide) (Nat.le_of_ble_eq_true rfl) ?_
  intro p e s m below meth c A ls En hsz hA hP hD hE hS hl
  have C : (dc_C p s m (([.ref (K 100)] : List Value).toArray) meth c cJString_coder_ 1 (Option.some Jvm.ClassFile.FieldType.byte) yJString_coder_ ∧ cf_E D K A s s.heap ∧ ∀ q, s.heap.size ≤ q → A q) := ⟨En, hE, hA⟩
  exact bJString_coder__S0_0 C r h hP hD hS hl
set_option maxHeartbeats 4000000 in
set_option maxRecDepth 100000 in
theorem bJString_length__S0_0 {p : Program} {l : Launch} {e : Env} {s : State} {m : MethodId} {below : List Frame} {meth : Method} {c : Code} {A : Nat → Prop} {D : va_G} {K : Nat → ClassId} {AR : Array Value} (C : (dc_C p s m AR meth c cJString_length_ 1 (Option.some Jvm.ClassFile.FieldType.int) yJString_length_ ∧ cf_E D K A s s.heap ∧ ∀ q, s.heap.size ≤ q → A q)) (r : Int32) (h : fJString_length__S0_0 = some r) {H : Heap} {locs : List Loc} {ls : Array Slot} (hP : va_P D vwCl ([]) H) (hD : va_D A ([])) (hS : va_S A s.heap H locs) (hl : lv_has ls 1 [(0, .ref (K 100))]) : W p l e ({ frames := 1, cells := 0, slots := 0, locals := 20 }) s m AR below meth c H locs 0 0 (MQ below (va_Qi (fun (x : Int32) (_ : Unit) => x = r) (fun (_ : Unit) t => cf_At D A ([]) t) A) AR s 0 0 A) (F0 m 0 ls []) := by
  obtain ⟨⟨hx, hb, hr, hts, hown, hlocks, hin, hml⟩, hE, hA⟩ := id C
  have hK := hE.k
  refine lv_aload_n hx hb dJString_length__0 rfl (lv_at hl 0 rfl) ?_
  refine vk_getf hx hb (hE.s 0 rfl).2.2.2.1 hS hown (hts _ wv_1735) (fun _ h9 => h9) dJString_length__1 ?_
  refine va_tlen (v := 4) hx hb (hE.s 0 rfl).2.2.2.2 hS rfl dJString_length__4 ?_
  refine lv_aload_n hx hb dJString_length__5 rfl (lv_at hl 0 rfl) ?_
  obtain ⟨q_1, hq_1, h⟩ := op_b h
  refine cf_calli (wc := []) (wr := []) (va_runV (As := []) (rest := [.int 4]) ⟨hx, hb, hml, hown, hts⟩ (mJString_coder__S0 l D K _ _ hq_1) (cwV 0 hts (cf_GV wv_760 wv_761 wv_762 wv_168 wv_763) rfl rfl rfl (by decide +kernel) ⟨Nat.le_of_ble_eq_true rfl, Nat.le_of_ble_eq_true rfl⟩) (cf_preO (wc := []) (hE.s 0 rfl).2.1 hE hP hD hS hA [] rfl (by decide +kernel)) rfl rfl hl.1 rfl (lv_room (Nat.le_of_ble_eq_true rfl)) dJString_length__6 ⟨Nat.le_of_ble_eq_true rfl, Nat.le_of_ble_eq_true rfl⟩) hP hD hS hA [] [] rfl rfl (by decide +kernel) (by decide +kernel) (fun r_2 _ H locs hw_3 hP hD hS => ?_)
  subst r_2
  have hP : va_P D vwCl ([]) H := hP.sub [] rfl
  have hD : va_D A ([]) := hD.sub [] (by decide +kernel) rfl
  refine lv_ishr hx hb dJString_length__9 ?_
  refine lv_topi (fun x_4 ex_4 => ?_)
  have h := op_ks ex_4 h
  obtain rfl := Option.some.inj h
  exact dc_iret hx hb hr hlocks rfl hP hD hS dJString_length__10
set_option maxRecDepth 100000 in
theorem mJString_length__S0 (l : Launch) (D : va_G) (K : Nat → ClassId) (sz : Nat) (r : Int32) (h : fJString_length__S0 = some r) : Met l yJString_length_ (Cond.code yJString_length_ cJString_length_ 1 (Option.some Jvm.ClassFile.FieldType.int) :: cfB) ({ frames := 1, cells := 0, slots := 0, locals := 20 }) (va_Pc [.ref (K 100)] (cf_Pre D K sz ([]))) (va_Qi (fun (x : Int32) (_ : Unit) => x = r) (fun (_ : Unit) t => cf_At D (va_A ([]) sz) ([]) t) (va_A ([]) sz)) 0 0 (va_A ([]) sz) := by
  refine cf_ofW (y := yJString_length_) (As := [.ref (K 100)]) (WS := []) (maxL := 1) (fun A => (va_Qi (fun (x : Int32) (_ : Unit) => x = r) (fun (_ : Unit) t => cf_At D A ([]) t) A)) (by decide) (Nat.le_of_ble_eq_true rfl) ?_
  intro p e s m below meth c A ls En hsz hA hP hD hE hS hl
  have C : (dc_C p s m (([.ref (K 100)] : List Value).toArray) meth c cJString_length_ 1 (Option.some Jvm.ClassFile.FieldType.int) yJString_length_ ∧ cf_E D K A s s.heap ∧ ∀ q, s.heap.size ≤ q → A q) := ⟨En, hE, hA⟩
  exact bJString_length__S0_0 C r h hP hD hS hl
set_option maxHeartbeats 4000000 in
set_option maxRecDepth 100000 in
theorem bTx_signOf_0 {p : Program} {l : Launch} {e : Env} {s : State} {m : MethodId} {below : List Frame} {meth : Method} {c : Code} {A : Nat → Prop} {D : va_G} {K : Nat → ClassId} {h0 : Nat} {a0 : Nat → Nat} {AR : Array Value} (C : (dc_C p s m AR meth c cTx_signOf 3 (Option.some Jvm.ClassFile.FieldType.int) yTx_signOf ∧ cf_E D K A s s.heap ∧ ∀ q, s.heap.size ≤ q → A q)) (v1 : Int32) (v2 : Int32) (o0 : cf_O) (r : Int32) (h : fTx_signOf_0 v1 v2 o0 = some r) {H : Heap} {locs : List Loc} {ls : Array Slot} (hP : va_P D vwCl (wTx K h0 a0 o0) H) (hD : va_D A (wTx K h0 a0 o0)) (hS : va_S A s.heap H locs) (hl : lv_has ls 3 [(0, .ref h0), (1, .int v1), (2, .int v2)]) : W p l e ({ frames := 0, cells := 0, slots := 0, locals := 0 }) s m AR below meth c H locs 0 0 (MQ below (va_Qi (fun (x : Int32) (_ : Unit) => x = r) (fun (_ : Unit) t => cf_At D A (wTx K h0 a0 o0) t) A) AR s 0 0 A) (F0 m 0 ls []) := by
  obtain ⟨⟨hx, hb, hr, hts, hown, hlocks, hin, hml⟩, hE, hA⟩ := id C
  have hK := hE.k
  refine lv_aload_n hx hb dTx_signOf_0 rfl (lv_at hl 0 rfl) ?_
  refine va_get (D := D) (ci := 1) (v := .ref (a0 0)) (C := RTx) (T := TTx) (N := 7) hx hb hts inTx hown hK hP 0 rfl rfl 0 (by decide) (hts _ wv_205) (fun _ h9 => h9) rfl dTx_signOf_1 ?_
  refine lv_aload_n hx hb dTx_signOf_4 rfl (lv_at hl 0 rfl) ?_
  refine va_get (D := D) (ci := 1) (v := .ref (a0 1)) (C := RTx) (T := TTx) (N := 7) hx hb hts inTx hown hK hP 0 rfl rfl 1 (by decide) (hts _ wv_206) (fun _ h9 => h9) rfl dTx_signOf_5 ?_
  refine lv_iload_n hx hb dTx_signOf_8 rfl (lv_at hl 1 rfl) ?_
  obtain ⟨hi_1, h⟩ := op_n h
  refine va_iald (D := D) hx hb hK hP 2 0 rfl rfl hi_1 dTx_signOf_9 ?_
  refine lv_topi (fun x_2 ex_2 => ?_)
  have h := op_ks ex_2 h
  refine lv_iload_n hx hb dTx_signOf_10 rfl (lv_at hl 2 rfl) ?_
  refine lv_iadd hx hb dTx_signOf_11 ?_
  refine lv_topi (fun x_3 ex_3 => ?_)
  have h := op_ks ex_3 h
  obtain ⟨hi_4, h⟩ := op_n h
  refine va_bald (D := D) hx hb hK hP 1 2 rfl rfl hi_4 dTx_signOf_12 ?_
  refine lv_topi (fun x_5 ex_5 => ?_)
  have h := op_ks ex_5 h
  obtain rfl := Option.some.inj h
  exact dc_iret hx hb hr hlocks rfl hP hD hS dTx_signOf_13
set_option maxRecDepth 100000 in
theorem mTx_signOf (l : Launch) (D : va_G) (K : Nat → ClassId) (sz : Nat) (v1 : Int32) (v2 : Int32) (h0 : Nat) (a0 : Nat → Nat) (o0 : cf_O) (r : Int32) (h : fTx_signOf v1 v2 o0 = some r) : Met l yTx_signOf (Cond.code yTx_signOf cTx_signOf 3 (Option.some Jvm.ClassFile.FieldType.int) :: cfB) ({ frames := 0, cells := 0, slots := 0, locals := 0 }) (va_Pc [.ref h0, .int v1, .int v2] (cf_Pre D K sz (wTx K h0 a0 o0))) (va_Qi (fun (x : Int32) (_ : Unit) => x = r) (fun (_ : Unit) t => cf_At D (va_A (wTx K h0 a0 o0) sz) (wTx K h0 a0 o0) t) (va_A (wTx K h0 a0 o0) sz)) 0 0 (va_A (wTx K h0 a0 o0) sz) := by
  refine cf_ofW (y := yTx_signOf) (As := [.ref h0, .int v1, .int v2]) (WS := wTx K h0 a0 o0) (maxL := 3) (fun A => (va_Qi (fun (x : Int32) (_ : Unit) => x = r) (fun (_ : Unit) t => cf_At D A (wTx K h0 a0 o0) t) A)) (by decide) (Nat.le_of_ble_eq_true rfl) ?_
  intro p e s m below meth c A ls En hsz hA hP hD hE hS hl
  have C : (dc_C p s m (([.ref h0, .int v1, .int v2] : List Value).toArray) meth c cTx_signOf 3 (Option.some Jvm.ClassFile.FieldType.int) yTx_signOf ∧ cf_E D K A s s.heap ∧ ∀ q, s.heap.size ≤ q → A q) := ⟨En, hE, hA⟩
  exact bTx_signOf_0 C v1 v2 o0 r h hP hD hS hl
set_option maxHeartbeats 4000000 in
set_option maxRecDepth 100000 in
theorem bJString_isLatin1__S0_18 {p : Program} {l : Launch} {e : Env} {s : State} {m : MethodId} {below : List Frame} {meth : Method} {c : Code} {A : Nat → Prop} {D : va_G} {K : Nat → ClassId} {AR : Array Value} (C : (dc_C p s m AR meth c cJString_isLatin1_ 1 (Option.some Jvm.ClassFile.FieldType.boolean) yJString_isLatin1_ ∧ cf_E D K A s s.heap ∧ ∀ q, s.heap.size ≤ q → A q)) (s0 : Int32) (r : Int32) (h : fJString_isLatin1__S0_18 s0 = some r) {H : Heap} {locs : List Loc} {ls : Array Slot} (hP : va_P D vwCl ([]) H) (hD : va_D A ([])) (hS : va_S A s.heap H locs) (hl : lv_has ls 1 []) : W p l e ({ frames := 0, cells := 0, slots := 0, locals := 0 }) s m AR below meth c H locs 0 0 (MQ below (va_Qi (fun (x : Int32) (_ : Unit) => x = r) (fun (_ : Unit) t => cf_At D A ([]) t) A) AR s 0 0 A) (F0 m 18 ls [.int s0]) := by
  obtain ⟨⟨hx, hb, hr, hts, hown, hlocks, hin, hml⟩, hE, hA⟩ := id C
  have hK := hE.k
  obtain ⟨hz_1, h⟩ := op_w h
  obtain rfl := Option.some.inj h
  exact dc_zret hx hb hr (op_z hz_1) hlocks rfl hP hD hS dJString_isLatin1__18
set_option maxHeartbeats 4000000 in
set_option maxRecDepth 100000 in
theorem bJString_isLatin1__S0_17 {p : Program} {l : Launch} {e : Env} {s : State} {m : MethodId} {below : List Frame} {meth : Method} {c : Code} {A : Nat → Prop} {D : va_G} {K : Nat → ClassId} {AR : Array Value} (C : (dc_C p s m AR meth c cJString_isLatin1_ 1 (Option.some Jvm.ClassFile.FieldType.boolean) yJString_isLatin1_ ∧ cf_E D K A s s.heap ∧ ∀ q, s.heap.size ≤ q → A q)) (r : Int32) (h : fJString_isLatin1__S0_17 = some r) {H : Heap} {locs : List Loc} {ls : Array Slot} (hP : va_P D vwCl ([]) H) (hD : va_D A ([])) (hS : va_S A s.heap H locs) (hl : lv_has ls 1 []) : W p l e ({ frames := 0, cells := 0, slots := 0, locals := 0 }) s m AR below meth c H locs 0 0 (MQ below (va_Qi (fun (x : Int32) (_ : Unit) => x = r) (fun (_ : Unit) t => cf_At D A ([]) t) A) AR s 0 0 A) (F0 m 17 ls []) := by
  obtain ⟨⟨hx, hb, hr, hts, hown, hlocks, hin, hml⟩, hE, hA⟩ := id C
  have hK := hE.k
  refine lv_iconst (v := 0) hx hb dJString_isLatin1__17 (by decide) ?_
  exact bJString_isLatin1__S0_18 C _ _ h hP hD hS (lv_sub hl [] rfl)
set_option maxHeartbeats 4000000 in
set_option maxRecDepth 100000 in
theorem bJString_isLatin1__S0_0 {p : Program} {l : Launch} {e : Env} {s : State} {m : MethodId} {below : List Frame} {meth : Method} {c : Code} {A : Nat → Prop} {D : va_G} {K : Nat → ClassId} {AR : Array Value} (C : (dc_C p s m AR meth c cJString_isLatin1_ 1 (Option.some Jvm.ClassFile.FieldType.boolean) yJString_isLatin1_ ∧ cf_E D K A s s.heap ∧ ∀ q, s.heap.size ≤ q → A q)) (r : Int32) (h : fJString_isLatin1__S0_0 = some r) {H : Heap} {locs : List Loc} {ls : Array Slot} (hP : va_P D vwCl ([]) H) (hD : va_D A ([])) (hS : va_S A s.heap H locs) (hl : lv_has ls 1 [(0, .ref (K 100))]) : W p l e ({ frames := 0, cells := 0, slots := 0, locals := 0 }) s m AR below meth c H locs 0 0 (MQ below (va_Qi (fun (x : Int32) (_ : Unit) => x = r) (fun (_ : Unit) t => cf_At D A ([]) t) A) AR s 0 0 A) (F0 m 0 ls []) := by
  obtain ⟨⟨hx, hb, hr, hts, hown, hlocks, hin, hml⟩, hE, hA⟩ := id C
  have hK := hE.k
  refine va_gets hx hb hE.2.2.2.2.2.2.1 hS hown (hts _ wv_764) (fun _ h9 => h9) dJString_isLatin1__0 ?_
  refine lv_if_eq (tgt := 17) hx hb dJString_isLatin1__3 (by decide) (fun c_1 => absurd c_1 (by decide)) (fun _ => ?_)
  refine lv_aload_n hx hb dJString_isLatin1__6 rfl (lv_at hl 0 rfl) ?_
  refine vk_getf hx hb (hE.s 0 rfl).2.2.1 hS hown (hts _ wv_1736) (fun _ h9 => h9) dJString_isLatin1__7 ?_
  refine lv_if_ne (tgt := 17) hx hb dJString_isLatin1__10 (by decide) (fun c_2 => absurd (by decide) c_2) (fun _ => ?_)
  refine lv_iconst (v := 1) hx hb dJString_isLatin1__13 (by decide) ?_
  refine lv_goto (tgt := 18) hx hb dJString_isLatin1__14 (by decide) ?_
  exact bJString_isLatin1__S0_18 C _ _ h hP hD hS (lv_sub hl [] rfl)
set_option maxRecDepth 100000 in
theorem mJString_isLatin1__S0 (l : Launch) (D : va_G) (K : Nat → ClassId) (sz : Nat) (r : Int32) (h : fJString_isLatin1__S0 = some r) : Met l yJString_isLatin1_ (Cond.code yJString_isLatin1_ cJString_isLatin1_ 1 (Option.some Jvm.ClassFile.FieldType.boolean) :: cfB) ({ frames := 0, cells := 0, slots := 0, locals := 0 }) (va_Pc [.ref (K 100)] (cf_Pre D K sz ([]))) (va_Qi (fun (x : Int32) (_ : Unit) => x = r) (fun (_ : Unit) t => cf_At D (va_A ([]) sz) ([]) t) (va_A ([]) sz)) 0 0 (va_A ([]) sz) := by
  refine cf_ofW (y := yJString_isLatin1_) (As := [.ref (K 100)]) (WS := []) (maxL := 1) (fun A => (va_Qi (fun (x : Int32) (_ : Unit) => x = r) (fun (_ : Unit) t => cf_At D A ([]) t) A)) (by decide) (Nat.le_of_ble_eq_true rfl) ?_
  intro p e s m below meth c A ls En hsz hA hP hD hE hS hl
  have C : (dc_C p s m (([.ref (K 100)] : List Value).toArray) meth c cJString_isLatin1_ 1 (Option.some Jvm.ClassFile.FieldType.boolean) yJString_isLatin1_ ∧ cf_E D K A s s.heap ∧ ∀ q, s.heap.size ≤ q → A q) := ⟨En, hE, hA⟩
  exact bJString_isLatin1__S0_0 C r h hP hD hS hl
set_option maxHeartbeats 4000000 in
set_option maxRecDepth 100000 in
theorem bJPreconditions_checkIndex_IILjavautilfunctionBiFunction_N0_9 {p : Program} {l : Launch} {e : Env} {s : State} {m : MethodId} {below : List Frame} {meth : Method} {c : Code} {AR : Array Value} (C : dc_C p s m AR meth c cJPreconditions_checkIndex_IILjavautilfunctionBiFunction 3 (Option.some Jvm.ClassFile.FieldType.int) yJPreconditions_checkIndex_IILjavautilfunctionBiFunction) (v0 : Int32) (v1 : Int32) (r : Int32) (h : fJPreconditions_checkIndex_IILjavautilfunctionBiFunction_N0_9 v0 v1 = some r) {ls : Array Slot} (hl : lv_has ls 3 [(0, .int v0), (1, .int v1), (2, .null)]) : W p l e ({ frames := 0, cells := 0, slots := 0, locals := 0 }) s m AR below meth c s.heap [] 0 0 (MQ below (cf_Pi (fun x => x = r)) AR s 0 0 (fun _ => False)) (F0 m 9 ls []) := by
  obtain ⟨hx, hb, hr, hts, hown, hlocks, hin, hml⟩ := id C
  cases h
set_option maxHeartbeats 4000000 in
set_option maxRecDepth 100000 in
theorem bJPreconditions_checkIndex_IILjavautilfunctionBiFunction_N0_0 {p : Program} {l : Launch} {e : Env} {s : State} {m : MethodId} {below : List Frame} {meth : Method} {c : Code} {AR : Array Value} (C : dc_C p s m AR meth c cJPreconditions_checkIndex_IILjavautilfunctionBiFunction 3 (Option.some Jvm.ClassFile.FieldType.int) yJPreconditions_checkIndex_IILjavautilfunctionBiFunction) (v0 : Int32) (v1 : Int32) (r : Int32) (h : fJPreconditions_checkIndex_IILjavautilfunctionBiFunction_N0_0 v0 v1 = some r) {ls : Array Slot} (hl : lv_has ls 3 [(0, .int v0), (1, .int v1), (2, .null)]) : W p l e ({ frames := 0, cells := 0, slots := 0, locals := 0 }) s m AR below meth c s.heap [] 0 0 (MQ below (cf_Pi (fun x => x = r)) AR s 0 0 (fun _ => False)) (F0 m 0 ls []) := by
  obtain ⟨hx, hb, hr, hts, hown, hlocks, hin, hml⟩ := id C
  refine lv_iload_n hx hb dJPreconditions_checkIndex_IILjavautilfunctionBiFunction_0 rfl (lv_at hl 0 rfl) ?_
  refine lv_if_lt (tgt := 9) hx hb dJPreconditions_checkIndex_IILjavautilfunctionBiFunction_1 (by decide) (fun c_1 => ?_) (fun c_1 => ?_)
  · have h := op_t c_1 h
    exact bJPreconditions_checkIndex_IILjavautilfunctionBiFunction_N0_9 C _ _ _ h (lv_sub hl [0, 1, 2] rfl)
  · have h := op_f c_1 h
    refine lv_iload_n hx hb dJPreconditions_checkIndex_IILjavautilfunctionBiFunction_4 rfl (lv_at hl 0 rfl) ?_
    refine lv_iload_n hx hb dJPreconditions_checkIndex_IILjavautilfunctionBiFunction_5 rfl (lv_at hl 1 rfl) ?_
    refine lv_icmp_lt (tgt := 16) hx hb dJPreconditions_checkIndex_IILjavautilfunctionBiFunction_6 (by decide) (fun c_2 => ?_) (fun c_2 => ?_)
    · have h := op_t c_2 h
      refine lv_iload_n hx hb dJPreconditions_checkIndex_IILjavautilfunctionBiFunction_16 rfl (lv_at hl 0 rfl) ?_
      obtain rfl := Option.some.inj h
      exact W.iret hx hb hr (fun t ht hW => ⟨_, rfl, rfl, ht⟩) cf_pnil dJPreconditions_checkIndex_IILjavautilfunctionBiFunction_17 hlocks
    · have h := op_f c_2 h
      exact bJPreconditions_checkIndex_IILjavautilfunctionBiFunction_N0_9 C _ _ _ h (lv_sub hl [0, 1, 2] rfl)
theorem mJPreconditions_checkIndex_IILjavautilfunctionBiFunction_N0 (l : Launch) (v0 : Int32) (v1 : Int32) (r : Int32) (h : fJPreconditions_checkIndex_IILjavautilfunctionBiFunction_N0 v0 v1 = some r) : Met l yJPreconditions_checkIndex_IILjavautilfunctionBiFunction (Cond.code yJPreconditions_checkIndex_IILjavautilfunctionBiFunction cJPreconditions_checkIndex_IILjavautilfunctionBiFunction 3 (Option.some Jvm.ClassFile.FieldType.int) :: cfB) ({ frames := 0, cells := 0, slots := 0, locals := 0 }) (fun v _ => v = ([.int v0, .int v1, .null] : List Value).toArray) (cf_Pi (fun x => x = r)) 0 0 (fun _ => False) := by
  refine cf_ofP (y := yJPreconditions_checkIndex_IILjavautilfunctionBiFunction) (As := [.int v0, .int v1, .null]) (maxL := 3) (cf_Pi (fun x => x = r)) (by decide) (Nat.le_of_ble_eq_true rfl) ?_
  intro p e s m below meth c ls C hl
  exact bJPreconditions_checkIndex_IILjavautilfunctionBiFunction_N0_0 (l := l) C v0 v1 r h hl
set_option maxHeartbeats 4000000 in
set_option maxRecDepth 100000 in
theorem bJPreconditions_checkIndex_IILjavautilfunctionBiFunction_T0_9 {p : Program} {l : Launch} {e : Env} {s : State} {m : MethodId} {below : List Frame} {meth : Method} {c : Code} {u2 : Nat} {AR : Array Value} (C : dc_C p s m AR meth c cJPreconditions_checkIndex_IILjavautilfunctionBiFunction 3 (Option.some Jvm.ClassFile.FieldType.int) yJPreconditions_checkIndex_IILjavautilfunctionBiFunction) (v0 : Int32) (v1 : Int32) (r : Int32) (h : fJPreconditions_checkIndex_IILjavautilfunctionBiFunction_T0_9 v0 v1 = some r) {ls : Array Slot} (hl : lv_has ls 3 [(0, .int v0), (1, .int v1), (2, .ref u2)]) : W p l e ({ frames := 0, cells := 0, slots := 0, locals := 0 }) s m AR below meth c s.heap [] 0 0 (MQ below (cf_Pi (fun x => x = r)) AR s 0 0 (fun _ => False)) (F0 m 9 ls []) := by
  obtain ⟨hx, hb, hr, hts, hown, hlocks, hin, hml⟩ := id C
  cases h
set_option maxHeartbeats 4000000 in
set_option maxRecDepth 100000 in
theorem bJPreconditions_checkIndex_IILjavautilfunctionBiFunction_T0_0 {p : Program} {l : Launch} {e : Env} {s : State} {m : MethodId} {below : List Frame} {meth : Method} {c : Code} {u2 : Nat} {AR : Array Value} (C : dc_C p s m AR meth c cJPreconditions_checkIndex_IILjavautilfunctionBiFunction 3 (Option.some Jvm.ClassFile.FieldType.int) yJPreconditions_checkIndex_IILjavautilfunctionBiFunction) (v0 : Int32) (v1 : Int32) (r : Int32) (h : fJPreconditions_checkIndex_IILjavautilfunctionBiFunction_T0_0 v0 v1 = some r) {ls : Array Slot} (hl : lv_has ls 3 [(0, .int v0), (1, .int v1), (2, .ref u2)]) : W p l e ({ frames := 0, cells := 0, slots := 0, locals := 0 }) s m AR below meth c s.heap [] 0 0 (MQ below (cf_Pi (fun x => x = r)) AR s 0 0 (fun _ => False)) (F0 m 0 ls []) := by
  obtain ⟨hx, hb, hr, hts, hown, hlocks, hin, hml⟩ := id C
  refine lv_iload_n hx hb dJPreconditions_checkIndex_IILjavautilfunctionBiFunction_0 rfl (lv_at hl 0 rfl) ?_
  refine lv_if_lt (tgt := 9) hx hb dJPreconditions_checkIndex_IILjavautilfunctionBiFunction_1 (by decide) (fun c_1 => ?_) (fun c_1 => ?_)
  · have h := op_t c_1 h
    exact bJPreconditions_checkIndex_IILjavautilfunctionBiFunction_T0_9 C _ _ _ h (lv_sub hl [0, 1, 2] rfl)
  · have h := op_f c_1 h
    refine lv_iload_n hx hb dJPreconditions_checkIndex_IILjavautilfunctionBiFunction_4 rfl (lv_at hl 0 rfl) ?_
    refine lv_iload_n hx hb dJPreconditions_checkIndex_IILjavautilfunctionBiFunction_5 rfl (lv_at hl 1 rfl) ?_
    refine lv_icmp_lt (tgt := 16) hx hb dJPreconditions_checkIndex_IILjavautilfunctionBiFunction_6 (by decide) (fun c_2 => ?_) (fun c_2 => ?_)
    · have h := op_t c_2 h
      refine lv_iload_n hx hb dJPreconditions_checkIndex_IILjavautilfunctionBiFunction_16 rfl (lv_at hl 0 rfl) ?_
      obtain rfl := Option.some.inj h
      exact W.iret hx hb hr (fun t ht hW => ⟨_, rfl, rfl, ht⟩) cf_pnil dJPreconditions_checkIndex_IILjavautilfunctionBiFunction_17 hlocks
    · have h := op_f c_2 h
      exact bJPreconditions_checkIndex_IILjavautilfunctionBiFunction_T0_9 C _ _ _ h (lv_sub hl [0, 1, 2] rfl)
theorem mJPreconditions_checkIndex_IILjavautilfunctionBiFunction_T0 (l : Launch) (v0 : Int32) (v1 : Int32) (u2 : Nat) (r : Int32) (h : fJPreconditions_checkIndex_IILjavautilfunctionBiFunction_T0 v0 v1 = some r) : Met l yJPreconditions_checkIndex_IILjavautilfunctionBiFunction (Cond.code yJPreconditions_checkIndex_IILjavautilfunctionBiFunction cJPreconditions_checkIndex_IILjavautilfunctionBiFunction 3 (Option.some Jvm.ClassFile.FieldType.int) :: cfB) ({ frames := 0, cells := 0, slots := 0, locals := 0 }) (fun v _ => v = ([.int v0, .int v1, .ref u2] : List Value).toArray) (cf_Pi (fun x => x = r)) 0 0 (fun _ => False) := by
  refine cf_ofP (y := yJPreconditions_checkIndex_IILjavautilfunctionBiFunction) (As := [.int v0, .int v1, .ref u2]) (maxL := 3) (cf_Pi (fun x => x = r)) (by decide) (Nat.le_of_ble_eq_true rfl) ?_
  intro p e s m below meth c ls C hl
  exact bJPreconditions_checkIndex_IILjavautilfunctionBiFunction_T0_0 (l := l) C v0 v1 r h hl
set_option maxHeartbeats 4000000 in
set_option maxRecDepth 100000 in
theorem bJString_checkIndex_II_0 {p : Program} {l : Launch} {e : Env} {s : State} {m : MethodId} {below : List Frame} {meth : Method} {c : Code} {A : Nat → Prop} {D : va_G} {K : Nat → ClassId} {AR : Array Value} (C : (dc_C p s m AR meth c cJString_checkIndex_II 2 (Option.none : Option Jvm.ClassFile.FieldType) yJString_checkIndex_II ∧ cf_E D K A s s.heap ∧ ∀ q, s.heap.size ≤ q → A q)) (v0 : Int32) (v1 : Int32) (r : Unit) (h : fJString_checkIndex_II_0 v0 v1 = some r) {H : Heap} {locs : List Loc} {ls : Array Slot} (hP : va_P D vwCl ([]) H) (hD : va_D A ([])) (hS : va_S A s.heap H locs) (hl : lv_has ls 2 [(0, .int v0), (1, .int v1)]) : W p l e ({ frames := 1, cells := 0, slots := 0, locals := 22 }) s m AR below meth c H locs 0 0 (MQ below (va_Qv (fun (_ : Unit) => True) (fun (_ : Unit) t => cf_At D A ([]) t) A) AR s 0 0 A) (F0 m 0 ls []) := by
  obtain ⟨⟨hx, hb, hr, hts, hown, hlocks, hin, hml⟩, hE, hA⟩ := id C
  have hK := hE.k
  refine lv_iload_n hx hb dJString_checkIndex_II_0 rfl (lv_at hl 0 rfl) ?_
  refine lv_iload_n hx hb dJString_checkIndex_II_1 rfl (lv_at hl 1 rfl) ?_
  rcases hE.2.2.2.2.2.2.2.2.2.2.2 with hZq | ⟨tq, hZq⟩
  · refine va_gets hx hb hZq hS hown (hts _ wv_783) (fun _ h9 => h9) dJString_checkIndex_II_2 ?_
    obtain ⟨q_1, hq_1, h⟩ := op_b h
    refine cf_pcalli (va_runS (As := [.int v0, .int v1, .null]) (rest := []) ⟨hx, hb, hml, hown, hts⟩ (mJPreconditions_checkIndex_IILjavautilfunctionBiFunction_N0 l v0 v1 _ hq_1) (va_cwS 3 hts (cf_GS wv_785 wv_786 wv_180 wv_787) rfl rfl rfl (by decide +kernel) ⟨Nat.le_of_ble_eq_true rfl, Nat.le_of_ble_eq_true rfl⟩) preEq rfl rfl hl.1 rfl (lv_room (Nat.le_of_ble_eq_true rfl)) dJString_checkIndex_II_5 ⟨Nat.le_of_ble_eq_true rfl, Nat.le_of_ble_eq_true rfl⟩) (fun r_2 hw_3 => ?_)
    subst r_2
    refine lv_pop hx hb dJString_checkIndex_II_8 rfl ?_
    obtain rfl := Option.some.inj h
    exact dc_vret hx hb hr hlocks rfl hP hD hS dJString_checkIndex_II_9
  · refine va_gets hx hb hZq hS hown (hts _ wv_783) (fun _ h9 => h9) dJString_checkIndex_II_2 ?_
    obtain ⟨q_4, hq_4, h⟩ := op_b h
    refine cf_pcalli (va_runS (As := [.int v0, .int v1, .ref tq]) (rest := []) ⟨hx, hb, hml, hown, hts⟩ (mJPreconditions_checkIndex_IILjavautilfunctionBiFunction_T0 l v0 v1 tq _ hq_4) (va_cwS 3 hts (cf_GS wv_785 wv_786 wv_180 wv_787) rfl rfl rfl (by decide +kernel) ⟨Nat.le_of_ble_eq_true rfl, Nat.le_of_ble_eq_true rfl⟩) preEq rfl rfl hl.1 rfl (lv_room (Nat.le_of_ble_eq_true rfl)) dJString_checkIndex_II_5 ⟨Nat.le_of_ble_eq_true rfl, Nat.le_of_ble_eq_true rfl⟩) (fun r_5 hw_6 => ?_)
    subst r_5
    refine lv_pop hx hb dJString_checkIndex_II_8 rfl ?_
    obtain rfl := Option.some.inj h
    exact dc_vret hx hb hr hlocks rfl hP hD hS dJString_checkIndex_II_9
set_option maxRecDepth 100000 in
theorem mJString_checkIndex_II (l : Launch) (D : va_G) (K : Nat → ClassId) (sz : Nat) (v0 : Int32) (v1 : Int32) (r : Unit) (h : fJString_checkIndex_II v0 v1 = some r) : Met l yJString_checkIndex_II (Cond.code yJString_checkIndex_II cJString_checkIndex_II 2 (Option.none : Option Jvm.ClassFile.FieldType) :: cfB) ({ frames := 1, cells := 0, slots := 0, locals := 22 }) (va_Pc [.int v0, .int v1] (cf_Pre D K sz ([]))) (va_Qv (fun (_ : Unit) => True) (fun (_ : Unit) t => cf_At D (va_A ([]) sz) ([]) t) (va_A ([]) sz)) 0 0 (va_A ([]) sz) := by
  refine cf_ofW (y := yJString_checkIndex_II) (As := [.int v0, .int v1]) (WS := []) (maxL := 2) (fun A => (va_Qv (fun (_ : Unit) => True) (fun (_ : Unit) t => cf_At D A ([]) t) A)) (by decide) (Nat.le_of_ble_eq_true rfl) ?_
  intro p e s m below meth c A ls En hsz hA hP hD hE hS hl
  have C : (dc_C p s m (([.int v0, .int v1] : List Value).toArray) meth c cJString_checkIndex_II 2 (Option.none : Option Jvm.ClassFile.FieldType) yJString_checkIndex_II ∧ cf_E D K A s s.heap ∧ ∀ q, s.heap.size ≤ q → A q) := ⟨En, hE, hA⟩
  exact bJString_checkIndex_II_0 C v0 v1 r h hP hD hS hl
set_option maxHeartbeats 4000000 in
set_option maxRecDepth 100000 in
theorem bJStringLatin1_charAt_ABI_B0_0 {p : Program} {l : Launch} {e : Env} {s : State} {m : MethodId} {below : List Frame} {meth : Method} {c : Code} {A : Nat → Prop} {D : va_G} {K : Nat → ClassId} {AR : Array Value} (C : (dc_C p s m AR meth c cJStringLatin1_charAt_ABI 2 (Option.some Jvm.ClassFile.FieldType.char) yJStringLatin1_charAt_ABI ∧ cf_E D K A s s.heap ∧ ∀ q, s.heap.size ≤ q → A q)) (v1 : Int32) (r : Int32) (h : fJStringLatin1_charAt_ABI_B0_0 v1 = some r) {H : Heap} {locs : List Loc} {ls : Array Slot} (hP : va_P D vwCl ([]) H) (hD : va_D A ([])) (hS : va_S A s.heap H locs) (hl : lv_has ls 2 [(0, .ref (K 200)), (1, .int v1)]) : W p l e ({ frames := 2, cells := 0, slots := 0, locals := 43 }) s m AR below meth c H locs 0 0 (MQ below (va_Qi (fun (x : Int32) (_ : Unit) => x = r) (fun (_ : Unit) t => cf_At D A ([]) t) A) AR s 0 0 A) (F0 m 0 ls []) := by
  obtain ⟨⟨hx, hb, hr, hts, hown, hlocks, hin, hml⟩, hE, hA⟩ := id C
  have hK := hE.k
  refine lv_iload_n hx hb dJStringLatin1_charAt_ABI_0 rfl (lv_at hl 1 rfl) ?_
  refine lv_aload_n hx hb dJStringLatin1_charAt_ABI_1 rfl (lv_at hl 0 rfl) ?_
  refine va_tlen (v := 4) hx hb (hE.s 0 rfl).2.2.2.2 hS rfl dJStringLatin1_charAt_ABI_2 ?_
  obtain ⟨q_1, hq_1, h⟩ := op_b h
  refine dc_callv (va_runS (As := [.int v1, .int 4]) (rest := []) ⟨hx, hb, hml, hown, hts⟩ (mJString_checkIndex_II l D K _ v1 4 _ hq_1) (va_cwS 2 hts (cf_GS wv_780 wv_781 wv_168 wv_782) rfl rfl rfl (by decide +kernel) ⟨Nat.le_of_ble_eq_true rfl, Nat.le_of_ble_eq_true rfl⟩) (dc_preS hE hP hD hS hA) rfl rfl hl.1 rfl (lv_room (Nat.le_of_ble_eq_true rfl)) dJStringLatin1_charAt_ABI_3 ⟨Nat.le_of_ble_eq_true rfl, Nat.le_of_ble_eq_true rfl⟩) hP hD hS hA (fun H locs hP hD hS => ?_)
  refine lv_aload_n hx hb dJStringLatin1_charAt_ABI_6 rfl (lv_at hl 0 rfl) ?_
  refine lv_iload_n hx hb dJStringLatin1_charAt_ABI_7 rfl (lv_at hl 1 rfl) ?_
  obtain ⟨hi_3, h⟩ := op_n h
  refine va_tb hx hb (hE.s 0 rfl).2.2.2.2 hS (i := v1) hi_3 (v := .int (cf_sb 0 v1.toNatClampNeg)) rfl dJStringLatin1_charAt_ABI_8 ?_
  refine lv_topi (fun x_4 ex_4 => ?_)
  have h := op_ks ex_4 h
  refine lv_sipush (v := 255) hx hb dJStringLatin1_charAt_ABI_9 (by decide) ?_
  refine lv_iand hx hb dJStringLatin1_charAt_ABI_12 ?_
  refine lv_topi (fun x_5 ex_5 => ?_)
  have h := op_ks ex_5 h
  refine lv_i2c hx hb dJStringLatin1_charAt_ABI_13 rfl ?_
  refine lv_topi (fun x_6 ex_6 => ?_)
  have h := op_ks ex_6 h
  obtain ⟨hz_7, h⟩ := op_w h
  obtain rfl := Option.some.inj h
  exact dc_zretn hx hb hr (op_nc hz_7) hlocks rfl hP hD hS dJStringLatin1_charAt_ABI_14
set_option maxRecDepth 100000 in
theorem mJStringLatin1_charAt_ABI_B0 (l : Launch) (D : va_G) (K : Nat → ClassId) (sz : Nat) (v1 : Int32) (r : Int32) (h : fJStringLatin1_charAt_ABI_B0 v1 = some r) : Met l yJStringLatin1_charAt_ABI (Cond.code yJStringLatin1_charAt_ABI cJStringLatin1_charAt_ABI 2 (Option.some Jvm.ClassFile.FieldType.char) :: cfB) ({ frames := 2, cells := 0, slots := 0, locals := 43 }) (va_Pc [.ref (K 200), .int v1] (cf_Pre D K sz ([]))) (va_Qi (fun (x : Int32) (_ : Unit) => x = r) (fun (_ : Unit) t => cf_At D (va_A ([]) sz) ([]) t) (va_A ([]) sz)) 0 0 (va_A ([]) sz) := by
  refine cf_ofW (y := yJStringLatin1_charAt_ABI) (As := [.ref (K 200), .int v1]) (WS := []) (maxL := 2) (fun A => (va_Qi (fun (x : Int32) (_ : Unit) => x = r) (fun (_ : Unit) t => cf_At D A ([]) t) A)) (by decide) (Nat.le_of_ble_eq_true rfl) ?_
  intro p e s m below meth c A ls En hsz hA hP hD hE hS hl
  have C : (dc_C p s m (([.ref (K 200), .int v1] : List Value).toArray) meth c cJStringLatin1_charAt_ABI 2 (Option.some Jvm.ClassFile.FieldType.char) yJStringLatin1_charAt_ABI ∧ cf_E D K A s s.heap ∧ ∀ q, s.heap.size ≤ q → A q) := ⟨En, hE, hA⟩
  exact bJStringLatin1_charAt_ABI_B0_0 C v1 r h hP hD hS hl
set_option maxHeartbeats 4000000 in
set_option maxRecDepth 100000 in
theorem bJString_charAt_I_S0_0 {p : Program} {l : Launch} {e : Env} {s : State} {m : MethodId} {below : List Frame} {meth : Method} {c : Code} {A : Nat → Prop} {D : va_G} {K : Nat → ClassId} {AR : Array Value} (C : (dc_C p s m AR meth c cJString_charAt_I 2 (Option.some Jvm.ClassFile.FieldType.char) yJString_charAt_I ∧ cf_E D K A s s.heap ∧ ∀ q, s.heap.size ≤ q → A q)) (v1 : Int32) (r : Int32) (h : fJString_charAt_I_S0_0 v1 = some r) {H : Heap} {locs : List Loc} {ls : Array Slot} (hP : va_P D vwCl ([]) H) (hD : va_D A ([])) (hS : va_S A s.heap H locs) (hl : lv_has ls 2 [(0, .ref (K 100)), (1, .int v1)]) : W p l e ({ frames := 3, cells := 0, slots := 0, locals := 64 }) s m AR below meth c H locs 0 0 (MQ below (va_Qi (fun (x : Int32) (_ : Unit) => x = r) (fun (_ : Unit) t => cf_At D A ([]) t) A) AR s 0 0 A) (F0 m 0 ls []) := by
  obtain ⟨⟨hx, hb, hr, hts, hown, hlocks, hin, hml⟩, hE, hA⟩ := id C
  have hK := hE.k
  refine lv_aload_n hx hb dJString_charAt_I_0 rfl (lv_at hl 0 rfl) ?_
  obtain ⟨q_1, hq_1, h⟩ := op_b h
  refine cf_calli (wc := []) (wr := []) (va_runV (As := []) (rest := []) ⟨hx, hb, hml, hown, hts⟩ (mJString_isLatin1__S0 l D K _ _ hq_1) (cwV 0 hts (cf_GV wv_773 wv_774 wv_775 wv_168 wv_776) rfl rfl rfl (by decide +kernel) ⟨Nat.le_of_ble_eq_true rfl, Nat.le_of_ble_eq_true rfl⟩) (cf_preO (wc := []) (hE.s 0 rfl).2.1 hE hP hD hS hA [] rfl (by decide +kernel)) rfl rfl hl.1 rfl (lv_room (Nat.le_of_ble_eq_true rfl)) dJString_charAt_I_1 ⟨Nat.le_of_ble_eq_true rfl, Nat.le_of_ble_eq_true rfl⟩) hP hD hS hA [] [] rfl rfl (by decide +kernel) (by decide +kernel) (fun r_2 _ H locs hw_3 hP hD hS => ?_)
  subst r_2
  have hP : va_P D vwCl ([]) H := hP.sub [] rfl
  have hD : va_D A ([]) := hD.sub [] (by decide +kernel) rfl
  refine lv_if_eq (tgt := 16) hx hb dJString_charAt_I_4 (by decide) (fun c_4 => ?_) (fun c_4 => ?_)
  · have h := op_t c_4 h
    refine lv_aload_n hx hb dJString_charAt_I_16 rfl (lv_at hl 0 rfl) ?_
    refine vk_getf hx hb (hE.s 0 rfl).2.2.2.1 hS hown (hts _ wv_1735) (fun _ h9 => h9) dJString_charAt_I_17 ?_
    refine lv_iload_n hx hb dJString_charAt_I_20 rfl (lv_at hl 1 rfl) ?_
    cases h
  · have h := op_f c_4 h
    refine lv_aload_n hx hb dJString_charAt_I_7 rfl (lv_at hl 0 rfl) ?_
    refine vk_getf hx hb (hE.s 0 rfl).2.2.2.1 hS hown (hts _ wv_1735) (fun _ h9 => h9) dJString_charAt_I_8 ?_
    refine lv_iload_n hx hb dJString_charAt_I_11 rfl (lv_at hl 1 rfl) ?_
    obtain ⟨q_5, hq_5, h⟩ := op_b h
    refine dc_calli (va_runS (As := [.ref (K 200), .int v1]) (rest := []) ⟨hx, hb, hml, hown, hts⟩ (mJStringLatin1_charAt_ABI_B0 l D K _ v1 _ hq_5) (va_cwS 2 hts (cf_GS wv_777 wv_778 wv_179 wv_779) rfl rfl rfl (by decide +kernel) ⟨Nat.le_of_ble_eq_true rfl, Nat.le_of_ble_eq_true rfl⟩) (dc_preS hE hP hD hS hA) rfl rfl hl.1 rfl (lv_room (Nat.le_of_ble_eq_true rfl)) dJString_charAt_I_12 ⟨Nat.le_of_ble_eq_true rfl, Nat.le_of_ble_eq_true rfl⟩) hP hD hS hA (fun r_6 H locs hw_7 hP hD hS => ?_)
    subst r_6
    obtain ⟨hz_8, h⟩ := op_w h
    obtain rfl := Option.some.inj h
    exact dc_zretn hx hb hr (op_nc hz_8) hlocks rfl hP hD hS dJString_charAt_I_15
set_option maxRecDepth 100000 in
theorem mJString_charAt_I_S0 (l : Launch) (D : va_G) (K : Nat → ClassId) (sz : Nat) (v1 : Int32) (r : Int32) (h : fJString_charAt_I_S0 v1 = some r) : Met l yJString_charAt_I (Cond.code yJString_charAt_I cJString_charAt_I 2 (Option.some Jvm.ClassFile.FieldType.char) :: cfB) ({ frames := 3, cells := 0, slots := 0, locals := 64 }) (va_Pc [.ref (K 100), .int v1] (cf_Pre D K sz ([]))) (va_Qi (fun (x : Int32) (_ : Unit) => x = r) (fun (_ : Unit) t => cf_At D (va_A ([]) sz) ([]) t) (va_A ([]) sz)) 0 0 (va_A ([]) sz) := by
  refine cf_ofW (y := yJString_charAt_I) (As := [.ref (K 100), .int v1]) (WS := []) (maxL := 2) (fun A => (va_Qi (fun (x : Int32) (_ : Unit) => x = r) (fun (_ : Unit) t => cf_At D A ([]) t) A)) (by decide) (Nat.le_of_ble_eq_true rfl) ?_
  intro p e s m below meth c A ls En hsz hA hP hD hE hS hl
  have C : (dc_C p s m (([.ref (K 100), .int v1] : List Value).toArray) meth c cJString_charAt_I 2 (Option.some Jvm.ClassFile.FieldType.char) yJString_charAt_I ∧ cf_E D K A s s.heap ∧ ∀ q, s.heap.size ≤ q → A q) := ⟨En, hE, hA⟩
  exact bJString_charAt_I_S0_0 C v1 r h hP hD hS hl
def IhTx_isWord_S0 (p : Program) (l : Launch) (e : Env) (s : State) (m : MethodId) (below : List Frame) (meth : Method) (c : Code) (A : Nat → Prop) (D : va_G) (K : Nat → ClassId) (h0 : Nat) (a0 : Nat → Nat) (AR : Array Value) (n : Nat) : Prop := (∀ (v1 : Int32) (v3 : Int32) (o0 : cf_O) (r : Int32), gTx_isWord_S0 n 0 v1 v3 o0 = some r → ∀ {H : Heap} {locs : List Loc} {ls : Array Slot}, (va_P D vwCl (wTx K h0 a0 o0) H) → (va_D A (wTx K h0 a0 o0)) → va_S A s.heap H locs → lv_has ls 4 [(0, .ref h0), (1, .int v1), (2, .ref (K 100)), (3, .int v3)] → W p l e ({ frames := 4, cells := 0, slots := 0, locals := 85 }) s m AR below meth c H locs 0 0 (MQ below (va_Qi (fun (x : Int32) (_ : Unit) => x = r) (fun (_ : Unit) t => cf_At D A (wTx K h0 a0 o0) t) A) AR s 0 0 A) (F0 m 16 ls []))
set_option maxHeartbeats 4000000 in
set_option maxRecDepth 100000 in
theorem bTx_isWord_S0_16 {p : Program} {l : Launch} {e : Env} {s : State} {m : MethodId} {below : List Frame} {meth : Method} {c : Code} {A : Nat → Prop} {D : va_G} {K : Nat → ClassId} {h0 : Nat} {a0 : Nat → Nat} {AR : Array Value} (C : (dc_C p s m AR meth c cTx_isWord 4 (Option.some Jvm.ClassFile.FieldType.boolean) yTx_isWord ∧ cf_E D K A s s.heap ∧ ∀ q, s.heap.size ≤ q → A q)) {n : Nat} (ih : IhTx_isWord_S0 p l e s m below meth c A D K h0 a0 AR n) (v1 : Int32) (v3 : Int32) (o0 : cf_O) (r : Int32) (h : fTx_isWord_S0_16 (gTx_isWord_S0 n) v1 v3 o0 = some r) {H : Heap} {locs : List Loc} {ls : Array Slot} (hP : va_P D vwCl (wTx K h0 a0 o0) H) (hD : va_D A (wTx K h0 a0 o0)) (hS : va_S A s.heap H locs) (hl : lv_has ls 4 [(0, .ref h0), (1, .int v1), (2, .ref (K 100)), (3, .int v3)]) : W p l e ({ frames := 4, cells := 0, slots := 0, locals := 85 }) s m AR below meth c H locs 0 0 (MQ below (va_Qi (fun (x : Int32) (_ : Unit) => x = r) (fun (_ : Unit) t => cf_At D A (wTx K h0 a0 o0) t) A) AR s 0 0 A) (F0 m 16 ls []) := by
  obtain ⟨⟨hx, hb, hr, hts, hown, hlocks, hin, hml⟩, hE, hA⟩ := id C
  have hK := hE.k
  refine lv_iload_n hx hb dTx_isWord_16 rfl (lv_at hl 3 rfl) ?_
  refine lv_aload_n hx hb dTx_isWord_17 rfl (lv_at hl 2 rfl) ?_
  obtain ⟨q_1, hq_1, h⟩ := op_b h
  refine cf_calli (wc := []) (wr := wTx K h0 a0 o0) (va_runV (As := []) (rest := [.int v3]) ⟨hx, hb, hml, hown, hts⟩ (mJString_length__S0 l D K _ _ hq_1) (cwV 0 hts (cf_GV wv_756 wv_757 wv_758 wv_168 wv_759) rfl rfl rfl (by decide +kernel) ⟨Nat.le_of_ble_eq_true rfl, Nat.le_of_ble_eq_true rfl⟩) (cf_preO (wc := []) (hE.s 0 rfl).2.1 hE hP hD hS hA [] rfl (by decide +kernel)) rfl rfl hl.1 rfl (lv_room (Nat.le_of_ble_eq_true rfl)) dTx_isWord_18 ⟨Nat.le_of_ble_eq_true rfl, Nat.le_of_ble_eq_true rfl⟩) hP hD hS hA [] [0, 1, 2, 3] rfl rfl (by decide +kernel) (by decide +kernel) (fun r_2 _ H locs hw_3 hP hD hS => ?_)
  subst r_2
  have hP : va_P D vwCl (wTx K h0 a0 o0) H := hP.sub [0, 1, 2, 3] rfl
  have hD : va_D A (wTx K h0 a0 o0) := hD.sub [0, 1, 2, 3] (by decide +kernel) rfl
  refine lv_icmp_ge (tgt := 46) hx hb dTx_isWord_21 (by decide) (fun c_4 => ?_) (fun c_4 => ?_)
  · have h := op_t c_4 h
    refine lv_iconst (v := 1) hx hb dTx_isWord_46 (by decide) ?_
    obtain rfl := Option.some.inj h
    exact dc_zret hx hb hr rfl hlocks rfl hP hD hS dTx_isWord_47
  · have h := op_f c_4 h
    refine lv_aload_n hx hb dTx_isWord_24 rfl (lv_at hl 0 rfl) ?_
    refine lv_iload_n hx hb dTx_isWord_25 rfl (lv_at hl 1 rfl) ?_
    refine lv_iload_n hx hb dTx_isWord_26 rfl (lv_at hl 3 rfl) ?_
    obtain ⟨q_5, hq_5, h⟩ := op_b h
    refine dc_calli (va_runV (As := [.int v1, .int v3]) (rest := []) ⟨hx, hb, hml, hown, hts⟩ (mTx_signOf l D K _ v1 v3 h0 a0 o0 _ hq_5) (cwV 2 hts (cf_GV wv_765 wv_766 wv_767 wv_158 wv_768) rfl rfl rfl (by decide +kernel) ⟨Nat.le_of_ble_eq_true rfl, Nat.le_of_ble_eq_true rfl⟩) (dc_preV hE hP hD hS hA rfl 0 rfl) rfl rfl hl.1 rfl (lv_room (Nat.le_of_ble_eq_true rfl)) dTx_isWord_27 ⟨Nat.le_of_ble_eq_true rfl, Nat.le_of_ble_eq_true rfl⟩) hP hD hS hA (fun r_6 H locs hw_7 hP hD hS => ?_)
    subst r_6
    refine lv_aload_n hx hb dTx_isWord_30 rfl (lv_at hl 2 rfl) ?_
    refine lv_iload_n hx hb dTx_isWord_31 rfl (lv_at hl 3 rfl) ?_
    obtain ⟨q_8, hq_8, h⟩ := op_b h
    refine cf_calli (wc := []) (wr := wTx K h0 a0 o0) (va_runV (As := [.int v3]) (rest := [.int q_5]) ⟨hx, hb, hml, hown, hts⟩ (mJString_charAt_I_S0 l D K _ v3 _ hq_8) (cwV 1 hts (cf_GV wv_769 wv_770 wv_771 wv_168 wv_772) rfl rfl rfl (by decide +kernel) ⟨Nat.le_of_ble_eq_true rfl, Nat.le_of_ble_eq_true rfl⟩) (cf_preO (wc := []) (hE.s 0 rfl).2.1 hE hP hD hS hA [] rfl (by decide +kernel)) rfl rfl hl.1 rfl (lv_room (Nat.le_of_ble_eq_true rfl)) dTx_isWord_32 ⟨Nat.le_of_ble_eq_true rfl, Nat.le_of_ble_eq_true rfl⟩) hP hD hS hA [] [0, 1, 2, 3] rfl rfl (by decide +kernel) (by decide +kernel) (fun r_9 _ H locs hw_10 hP hD hS => ?_)
    subst r_9
    have hP : va_P D vwCl (wTx K h0 a0 o0) H := hP.sub [0, 1, 2, 3] rfl
    have hD : va_D A (wTx K h0 a0 o0) := hD.sub [0, 1, 2, 3] (by decide +kernel) rfl
    refine lv_icmp_eq (tgt := 40) hx hb dTx_isWord_35 (by decide) (fun c_11 => ?_) (fun c_11 => ?_)
    · have h := op_t c_11 h
      obtain ⟨x_12, ex_12⟩ : ∃ y : Int32, y = v3 + 1 := ⟨_, rfl⟩
      refine lv_iinc (v := x_12) (lv' := [(3, .int x_12), (0, .ref h0), (1, .int v1), (2, .ref (K 100))]) hx hb dTx_isWord_40 hl (k := 3) rfl (by rw [ex_12]; rfl) (by decide) rfl (fun ls hl => ?_)
      have h := op_ks ex_12 h
      refine lv_goto (tgt := 16) hx hb dTx_isWord_43 (by decide) ?_
      exact (ih) _ _ _ _ h hP hD hS (lv_sub hl [1, 2, 3, 0] rfl)
    · have h := op_f c_11 h
      refine lv_iconst (v := 0) hx hb dTx_isWord_38 (by decide) ?_
      obtain rfl := Option.some.inj h
      exact dc_zret hx hb hr rfl hlocks rfl hP hD hS dTx_isWord_39
set_option maxHeartbeats 4000000 in
set_option maxRecDepth 100000 in
theorem bTx_isWord_S0_0 {p : Program} {l : Launch} {e : Env} {s : State} {m : MethodId} {below : List Frame} {meth : Method} {c : Code} {A : Nat → Prop} {D : va_G} {K : Nat → ClassId} {h0 : Nat} {a0 : Nat → Nat} {AR : Array Value} (C : (dc_C p s m AR meth c cTx_isWord 4 (Option.some Jvm.ClassFile.FieldType.boolean) yTx_isWord ∧ cf_E D K A s s.heap ∧ ∀ q, s.heap.size ≤ q → A q)) {n : Nat} (ih : IhTx_isWord_S0 p l e s m below meth c A D K h0 a0 AR n) (v1 : Int32) (o0 : cf_O) (r : Int32) (h : fTx_isWord_S0_0 (gTx_isWord_S0 n) v1 o0 = some r) {H : Heap} {locs : List Loc} {ls : Array Slot} (hP : va_P D vwCl (wTx K h0 a0 o0) H) (hD : va_D A (wTx K h0 a0 o0)) (hS : va_S A s.heap H locs) (hl : lv_has ls 4 [(0, .ref h0), (1, .int v1), (2, .ref (K 100))]) : W p l e ({ frames := 4, cells := 0, slots := 0, locals := 85 }) s m AR below meth c H locs 0 0 (MQ below (va_Qi (fun (x : Int32) (_ : Unit) => x = r) (fun (_ : Unit) t => cf_At D A (wTx K h0 a0 o0) t) A) AR s 0 0 A) (F0 m 0 ls []) := by
  obtain ⟨⟨hx, hb, hr, hts, hown, hlocks, hin, hml⟩, hE, hA⟩ := id C
  have hK := hE.k
  refine lv_aload_n hx hb dTx_isWord_0 rfl (lv_at hl 0 rfl) ?_
  refine lv_iload_n hx hb dTx_isWord_1 rfl (lv_at hl 1 rfl) ?_
  obtain ⟨q_1, hq_1, h⟩ := op_b h
  refine dc_calli (va_runV (As := [.int v1]) (rest := []) ⟨hx, hb, hml, hown, hts⟩ (mTx_length l D K _ v1 h0 a0 o0 _ hq_1) (cwV 1 hts (cf_GV wv_752 wv_753 wv_754 wv_158 wv_755) rfl rfl rfl (by decide +kernel) ⟨Nat.le_of_ble_eq_true rfl, Nat.le_of_ble_eq_true rfl⟩) (dc_preV hE hP hD hS hA rfl 0 rfl) rfl rfl hl.1 rfl (lv_room (Nat.le_of_ble_eq_true rfl)) dTx_isWord_2 ⟨Nat.le_of_ble_eq_true rfl, Nat.le_of_ble_eq_true rfl⟩) hP hD hS hA (fun r_2 H locs hw_3 hP hD hS => ?_)
  subst r_2
  refine lv_aload_n hx hb dTx_isWord_5 rfl (lv_at hl 2 rfl) ?_
  obtain ⟨q_4, hq_4, h⟩ := op_b h
  refine cf_calli (wc := []) (wr := wTx K h0 a0 o0) (va_runV (As := []) (rest := [.int q_1]) ⟨hx, hb, hml, hown, hts⟩ (mJString_length__S0 l D K _ _ hq_4) (cwV 0 hts (cf_GV wv_756 wv_757 wv_758 wv_168 wv_759) rfl rfl rfl (by decide +kernel) ⟨Nat.le_of_ble_eq_true rfl, Nat.le_of_ble_eq_true rfl⟩) (cf_preO (wc := []) (hE.s 0 rfl).2.1 hE hP hD hS hA [] rfl (by decide +kernel)) rfl rfl hl.1 rfl (lv_room (Nat.le_of_ble_eq_true rfl)) dTx_isWord_6 ⟨Nat.le_of_ble_eq_true rfl, Nat.le_of_ble_eq_true rfl⟩) hP hD hS hA [] [0, 1, 2, 3] rfl rfl (by decide +kernel) (by decide +kernel) (fun r_5 _ H locs hw_6 hP hD hS => ?_)
  subst r_5
  have hP : va_P D vwCl (wTx K h0 a0 o0) H := hP.sub [0, 1, 2, 3] rfl
  have hD : va_D A (wTx K h0 a0 o0) := hD.sub [0, 1, 2, 3] (by decide +kernel) rfl
  refine lv_icmp_eq (tgt := 14) hx hb dTx_isWord_9 (by decide) (fun c_7 => ?_) (fun c_7 => ?_)
  · have h := op_t c_7 h
    refine lv_iconst (v := 0) hx hb dTx_isWord_14 (by decide) ?_
    refine lv_istore_n (lv' := [(3, .int 0), (0, .ref h0), (1, .int v1), (2, .ref (K 100))]) hx hb dTx_isWord_15 rfl hl (by decide) rfl (fun ls hl => ?_)
    exact (ih) _ _ _ _ h hP hD hS (lv_sub hl [1, 2, 3, 0] rfl)
  · have h := op_f c_7 h
    refine lv_iconst (v := 0) hx hb dTx_isWord_12 (by decide) ?_
    obtain rfl := Option.some.inj h
    exact dc_zret hx hb hr rfl hlocks rfl hP hD hS dTx_isWord_13
theorem iTx_isWord_S0 {p : Program} {l : Launch} {e : Env} {s : State} {m : MethodId} {below : List Frame} {meth : Method} {c : Code} {A : Nat → Prop} {D : va_G} {K : Nat → ClassId} {h0 : Nat} {a0 : Nat → Nat} {AR : Array Value} (C : (dc_C p s m AR meth c cTx_isWord 4 (Option.some Jvm.ClassFile.FieldType.boolean) yTx_isWord ∧ cf_E D K A s s.heap ∧ ∀ q, s.heap.size ≤ q → A q)) : ∀ n, IhTx_isWord_S0 p l e s m below meth c A D K h0 a0 AR n := by
  intro n
  induction n with
  | zero => exact (fun _ _ _ r h => by cases (show none = some r from h))
  | succ n ih => exact fun x0 x1 x2 r h _ _ _ hP hD hS hl => bTx_isWord_S0_16 C ih x0 x1 x2 r h hP hD hS hl
set_option maxRecDepth 100000 in
theorem mTx_isWord_S0 (l : Launch) (D : va_G) (K : Nat → ClassId) (sz : Nat) (v1 : Int32) (h0 : Nat) (a0 : Nat → Nat) (o0 : cf_O) (r : Int32) (h : fTx_isWord_S0 v1 o0 = some r) : Met l yTx_isWord (Cond.code yTx_isWord cTx_isWord 4 (Option.some Jvm.ClassFile.FieldType.boolean) :: cfB) ({ frames := 4, cells := 0, slots := 0, locals := 85 }) (va_Pc [.ref h0, .int v1, .ref (K 100)] (cf_Pre D K sz (wTx K h0 a0 o0))) (va_Qi (fun (x : Int32) (_ : Unit) => x = r) (fun (_ : Unit) t => cf_At D (va_A (wTx K h0 a0 o0) sz) (wTx K h0 a0 o0) t) (va_A (wTx K h0 a0 o0) sz)) 0 0 (va_A (wTx K h0 a0 o0) sz) := by
  refine cf_ofW (y := yTx_isWord) (As := [.ref h0, .int v1, .ref (K 100)]) (WS := wTx K h0 a0 o0) (maxL := 4) (fun A => (va_Qi (fun (x : Int32) (_ : Unit) => x = r) (fun (_ : Unit) t => cf_At D A (wTx K h0 a0 o0) t) A)) (by decide) (Nat.le_of_ble_eq_true rfl) ?_
  intro p e s m below meth c A ls En hsz hA hP hD hE hS hl
  have C : (dc_C p s m (([.ref h0, .int v1, .ref (K 100)] : List Value).toArray) meth c cTx_isWord 4 (Option.some Jvm.ClassFile.FieldType.boolean) yTx_isWord ∧ cf_E D K A s s.heap ∧ ∀ q, s.heap.size ≤ q → A q) := ⟨En, hE, hA⟩
  exact bTx_isWord_S0_0 C (iTx_isWord_S0 C cfFU) v1 o0 r h hP hD hS hl
set_option maxHeartbeats 4000000 in
set_option maxRecDepth 100000 in
theorem bJString_coder__S1_14 {p : Program} {l : Launch} {e : Env} {s : State} {m : MethodId} {below : List Frame} {meth : Method} {c : Code} {A : Nat → Prop} {D : va_G} {K : Nat → ClassId} {AR : Array Value} (C : (dc_C p s m AR meth c cJString_coder_ 1 (Option.some Jvm.ClassFile.FieldType.byte) yJString_coder_ ∧ cf_E D K A s s.heap ∧ ∀ q, s.heap.size ≤ q → A q)) (s0 : Int32) (r : Int32) (h : fJString_coder__S1_14 s0 = some r) {H : Heap} {locs : List Loc} {ls : Array Slot} (hP : va_P D vwCl ([]) H) (hD : va_D A ([])) (hS : va_S A s.heap H locs) (hl : lv_has ls 1 []) : W p l e ({ frames := 0, cells := 0, slots := 0, locals := 0 }) s m AR below meth c H locs 0 0 (MQ below (va_Qi (fun (x : Int32) (_ : Unit) => x = r) (fun (_ : Unit) t => cf_At D A ([]) t) A) AR s 0 0 A) (F0 m 14 ls [.int s0]) := by
  obtain ⟨⟨hx, hb, hr, hts, hown, hlocks, hin, hml⟩, hE, hA⟩ := id C
  have hK := hE.k
  obtain ⟨hz_1, h⟩ := op_w h
  obtain rfl := Option.some.inj h
  exact dc_zretn hx hb hr (op_nb hz_1) hlocks rfl hP hD hS dJString_coder__14
set_option maxHeartbeats 4000000 in
set_option maxRecDepth 100000 in
theorem bJString_coder__S1_0 {p : Program} {l : Launch} {e : Env} {s : State} {m : MethodId} {below : List Frame} {meth : Method} {c : Code} {A : Nat → Prop} {D : va_G} {K : Nat → ClassId} {AR : Array Value} (C : (dc_C p s m AR meth c cJString_coder_ 1 (Option.some Jvm.ClassFile.FieldType.byte) yJString_coder_ ∧ cf_E D K A s s.heap ∧ ∀ q, s.heap.size ≤ q → A q)) (r : Int32) (h : fJString_coder__S1_0 = some r) {H : Heap} {locs : List Loc} {ls : Array Slot} (hP : va_P D vwCl ([]) H) (hD : va_D A ([])) (hS : va_S A s.heap H locs) (hl : lv_has ls 1 [(0, .ref (K 101))]) : W p l e ({ frames := 0, cells := 0, slots := 0, locals := 0 }) s m AR below meth c H locs 0 0 (MQ below (va_Qi (fun (x : Int32) (_ : Unit) => x = r) (fun (_ : Unit) t => cf_At D A ([]) t) A) AR s 0 0 A) (F0 m 0 ls []) := by
  obtain ⟨⟨hx, hb, hr, hts, hown, hlocks, hin, hml⟩, hE, hA⟩ := id C
  have hK := hE.k
  refine va_gets hx hb hE.2.2.2.2.2.2.1 hS hown (hts _ wv_764) (fun _ h9 => h9) dJString_coder__0 ?_
  refine lv_if_eq (tgt := 13) hx hb dJString_coder__3 (by decide) (fun c_1 => absurd c_1 (by decide)) (fun _ => ?_)
  refine lv_aload_n hx hb dJString_coder__6 rfl (lv_at hl 0 rfl) ?_
  refine vk_getf hx hb (hE.s 1 rfl).2.2.1 hS hown (hts _ wv_1736) (fun _ h9 => h9) dJString_coder__7 ?_
  refine lv_goto (tgt := 14) hx hb dJString_coder__10 (by decide) ?_
  exact bJString_coder__S1_14 C _ _ h hP hD hS (lv_sub hl [] rfl)
set_option maxRecDepth 100000 in
theorem mJString_coder__S1 (l : Launch) (D : va_G) (K : Nat → ClassId) (sz : Nat) (r : Int32) (h : fJString_coder__S1 = some r) : Met l yJString_coder_ (Cond.code yJString_coder_ cJString_coder_ 1 (Option.some Jvm.ClassFile.FieldType.byte) :: cfB) ({ frames := 0, cells := 0, slots := 0, locals := 0 }) (va_Pc [.ref (K 101)] (cf_Pre D K sz ([]))) (va_Qi (fun (x : Int32) (_ : Unit) => x = r) (fun (_ : Unit) t => cf_At D (va_A ([]) sz) ([]) t) (va_A ([]) sz)) 0 0 (va_A ([]) sz) := by
  refine cf_ofW (y := yJString_coder_) (As := [.ref (K 101)]) (WS := []) (maxL := 1) (fun A => (va_Qi (fun (x : Int32) (_ : Unit) => x = r) (fun (_ : Unit) t => cf_At D A ([]) t) A)) (by decide) (Nat.le_of_ble_eq_true rfl) ?_
  intro p e s m below meth c A ls En hsz hA hP hD hE hS hl
  have C : (dc_C p s m (([.ref (K 101)] : List Value).toArray) meth c cJString_coder_ 1 (Option.some Jvm.ClassFile.FieldType.byte) yJString_coder_ ∧ cf_E D K A s s.heap ∧ ∀ q, s.heap.size ≤ q → A q) := ⟨En, hE, hA⟩
  exact bJString_coder__S1_0 C r h hP hD hS hl
set_option maxHeartbeats 4000000 in
set_option maxRecDepth 100000 in
theorem bJString_length__S1_0 {p : Program} {l : Launch} {e : Env} {s : State} {m : MethodId} {below : List Frame} {meth : Method} {c : Code} {A : Nat → Prop} {D : va_G} {K : Nat → ClassId} {AR : Array Value} (C : (dc_C p s m AR meth c cJString_length_ 1 (Option.some Jvm.ClassFile.FieldType.int) yJString_length_ ∧ cf_E D K A s s.heap ∧ ∀ q, s.heap.size ≤ q → A q)) (r : Int32) (h : fJString_length__S1_0 = some r) {H : Heap} {locs : List Loc} {ls : Array Slot} (hP : va_P D vwCl ([]) H) (hD : va_D A ([])) (hS : va_S A s.heap H locs) (hl : lv_has ls 1 [(0, .ref (K 101))]) : W p l e ({ frames := 1, cells := 0, slots := 0, locals := 20 }) s m AR below meth c H locs 0 0 (MQ below (va_Qi (fun (x : Int32) (_ : Unit) => x = r) (fun (_ : Unit) t => cf_At D A ([]) t) A) AR s 0 0 A) (F0 m 0 ls []) := by
  obtain ⟨⟨hx, hb, hr, hts, hown, hlocks, hin, hml⟩, hE, hA⟩ := id C
  have hK := hE.k
  refine lv_aload_n hx hb dJString_length__0 rfl (lv_at hl 0 rfl) ?_
  refine vk_getf hx hb (hE.s 1 rfl).2.2.2.1 hS hown (hts _ wv_1735) (fun _ h9 => h9) dJString_length__1 ?_
  refine va_tlen (v := 4) hx hb (hE.s 1 rfl).2.2.2.2 hS rfl dJString_length__4 ?_
  refine lv_aload_n hx hb dJString_length__5 rfl (lv_at hl 0 rfl) ?_
  obtain ⟨q_1, hq_1, h⟩ := op_b h
  refine cf_calli (wc := []) (wr := []) (va_runV (As := []) (rest := [.int 4]) ⟨hx, hb, hml, hown, hts⟩ (mJString_coder__S1 l D K _ _ hq_1) (cwV 0 hts (cf_GV wv_760 wv_761 wv_762 wv_168 wv_763) rfl rfl rfl (by decide +kernel) ⟨Nat.le_of_ble_eq_true rfl, Nat.le_of_ble_eq_true rfl⟩) (cf_preO (wc := []) (hE.s 1 rfl).2.1 hE hP hD hS hA [] rfl (by decide +kernel)) rfl rfl hl.1 rfl (lv_room (Nat.le_of_ble_eq_true rfl)) dJString_length__6 ⟨Nat.le_of_ble_eq_true rfl, Nat.le_of_ble_eq_true rfl⟩) hP hD hS hA [] [] rfl rfl (by decide +kernel) (by decide +kernel) (fun r_2 _ H locs hw_3 hP hD hS => ?_)
  subst r_2
  have hP : va_P D vwCl ([]) H := hP.sub [] rfl
  have hD : va_D A ([]) := hD.sub [] (by decide +kernel) rfl
  refine lv_ishr hx hb dJString_length__9 ?_
  refine lv_topi (fun x_4 ex_4 => ?_)
  have h := op_ks ex_4 h
  obtain rfl := Option.some.inj h
  exact dc_iret hx hb hr hlocks rfl hP hD hS dJString_length__10
set_option maxRecDepth 100000 in
theorem mJString_length__S1 (l : Launch) (D : va_G) (K : Nat → ClassId) (sz : Nat) (r : Int32) (h : fJString_length__S1 = some r) : Met l yJString_length_ (Cond.code yJString_length_ cJString_length_ 1 (Option.some Jvm.ClassFile.FieldType.int) :: cfB) ({ frames := 1, cells := 0, slots := 0, locals := 20 }) (va_Pc [.ref (K 101)] (cf_Pre D K sz ([]))) (va_Qi (fun (x : Int32) (_ : Unit) => x = r) (fun (_ : Unit) t => cf_At D (va_A ([]) sz) ([]) t) (va_A ([]) sz)) 0 0 (va_A ([]) sz) := by
  refine cf_ofW (y := yJString_length_) (As := [.ref (K 101)]) (WS := []) (maxL := 1) (fun A => (va_Qi (fun (x : Int32) (_ : Unit) => x = r) (fun (_ : Unit) t => cf_At D A ([]) t) A)) (by decide) (Nat.le_of_ble_eq_true rfl) ?_
  intro p e s m below meth c A ls En hsz hA hP hD hE hS hl
  have C : (dc_C p s m (([.ref (K 101)] : List Value).toArray) meth c cJString_length_ 1 (Option.some Jvm.ClassFile.FieldType.int) yJString_length_ ∧ cf_E D K A s s.heap ∧ ∀ q, s.heap.size ≤ q → A q) := ⟨En, hE, hA⟩
  exact bJString_length__S1_0 C r h hP hD hS hl
set_option maxHeartbeats 4000000 in
set_option maxRecDepth 100000 in
theorem bJString_isLatin1__S1_18 {p : Program} {l : Launch} {e : Env} {s : State} {m : MethodId} {below : List Frame} {meth : Method} {c : Code} {A : Nat → Prop} {D : va_G} {K : Nat → ClassId} {AR : Array Value} (C : (dc_C p s m AR meth c cJString_isLatin1_ 1 (Option.some Jvm.ClassFile.FieldType.boolean) yJString_isLatin1_ ∧ cf_E D K A s s.heap ∧ ∀ q, s.heap.size ≤ q → A q)) (s0 : Int32) (r : Int32) (h : fJString_isLatin1__S1_18 s0 = some r) {H : Heap} {locs : List Loc} {ls : Array Slot} (hP : va_P D vwCl ([]) H) (hD : va_D A ([])) (hS : va_S A s.heap H locs) (hl : lv_has ls 1 []) : W p l e ({ frames := 0, cells := 0, slots := 0, locals := 0 }) s m AR below meth c H locs 0 0 (MQ below (va_Qi (fun (x : Int32) (_ : Unit) => x = r) (fun (_ : Unit) t => cf_At D A ([]) t) A) AR s 0 0 A) (F0 m 18 ls [.int s0]) := by
  obtain ⟨⟨hx, hb, hr, hts, hown, hlocks, hin, hml⟩, hE, hA⟩ := id C
  have hK := hE.k
  obtain ⟨hz_1, h⟩ := op_w h
  obtain rfl := Option.some.inj h
  exact dc_zret hx hb hr (op_z hz_1) hlocks rfl hP hD hS dJString_isLatin1__18
set_option maxHeartbeats 4000000 in
set_option maxRecDepth 100000 in
theorem bJString_isLatin1__S1_17 {p : Program} {l : Launch} {e : Env} {s : State} {m : MethodId} {below : List Frame} {meth : Method} {c : Code} {A : Nat → Prop} {D : va_G} {K : Nat → ClassId} {AR : Array Value} (C : (dc_C p s m AR meth c cJString_isLatin1_ 1 (Option.some Jvm.ClassFile.FieldType.boolean) yJString_isLatin1_ ∧ cf_E D K A s s.heap ∧ ∀ q, s.heap.size ≤ q → A q)) (r : Int32) (h : fJString_isLatin1__S1_17 = some r) {H : Heap} {locs : List Loc} {ls : Array Slot} (hP : va_P D vwCl ([]) H) (hD : va_D A ([])) (hS : va_S A s.heap H locs) (hl : lv_has ls 1 []) : W p l e ({ frames := 0, cells := 0, slots := 0, locals := 0 }) s m AR below meth c H locs 0 0 (MQ below (va_Qi (fun (x : Int32) (_ : Unit) => x = r) (fun (_ : Unit) t => cf_At D A ([]) t) A) AR s 0 0 A) (F0 m 17 ls []) := by
  obtain ⟨⟨hx, hb, hr, hts, hown, hlocks, hin, hml⟩, hE, hA⟩ := id C
  have hK := hE.k
  refine lv_iconst (v := 0) hx hb dJString_isLatin1__17 (by decide) ?_
  exact bJString_isLatin1__S1_18 C _ _ h hP hD hS (lv_sub hl [] rfl)
set_option maxHeartbeats 4000000 in
set_option maxRecDepth 100000 in
theorem bJString_isLatin1__S1_0 {p : Program} {l : Launch} {e : Env} {s : State} {m : MethodId} {below : List Frame} {meth : Method} {c : Code} {A : Nat → Prop} {D : va_G} {K : Nat → ClassId} {AR : Array Value} (C : (dc_C p s m AR meth c cJString_isLatin1_ 1 (Option.some Jvm.ClassFile.FieldType.boolean) yJString_isLatin1_ ∧ cf_E D K A s s.heap ∧ ∀ q, s.heap.size ≤ q → A q)) (r : Int32) (h : fJString_isLatin1__S1_0 = some r) {H : Heap} {locs : List Loc} {ls : Array Slot} (hP : va_P D vwCl ([]) H) (hD : va_D A ([])) (hS : va_S A s.heap H locs) (hl : lv_has ls 1 [(0, .ref (K 101))]) : W p l e ({ frames := 0, cells := 0, slots := 0, locals := 0 }) s m AR below meth c H locs 0 0 (MQ below (va_Qi (fun (x : Int32) (_ : Unit) => x = r) (fun (_ : Unit) t => cf_At D A ([]) t) A) AR s 0 0 A) (F0 m 0 ls []) := by
  obtain ⟨⟨hx, hb, hr, hts, hown, hlocks, hin, hml⟩, hE, hA⟩ := id C
  have hK := hE.k
  refine va_gets hx hb hE.2.2.2.2.2.2.1 hS hown (hts _ wv_764) (fun _ h9 => h9) dJString_isLatin1__0 ?_
  refine lv_if_eq (tgt := 17) hx hb dJString_isLatin1__3 (by decide) (fun c_1 => absurd c_1 (by decide)) (fun _ => ?_)
  refine lv_aload_n hx hb dJString_isLatin1__6 rfl (lv_at hl 0 rfl) ?_
  refine vk_getf hx hb (hE.s 1 rfl).2.2.1 hS hown (hts _ wv_1736) (fun _ h9 => h9) dJString_isLatin1__7 ?_
  refine lv_if_ne (tgt := 17) hx hb dJString_isLatin1__10 (by decide) (fun c_2 => absurd (by decide) c_2) (fun _ => ?_)
  refine lv_iconst (v := 1) hx hb dJString_isLatin1__13 (by decide) ?_
  refine lv_goto (tgt := 18) hx hb dJString_isLatin1__14 (by decide) ?_
  exact bJString_isLatin1__S1_18 C _ _ h hP hD hS (lv_sub hl [] rfl)
set_option maxRecDepth 100000 in
theorem mJString_isLatin1__S1 (l : Launch) (D : va_G) (K : Nat → ClassId) (sz : Nat) (r : Int32) (h : fJString_isLatin1__S1 = some r) : Met l yJString_isLatin1_ (Cond.code yJString_isLatin1_ cJString_isLatin1_ 1 (Option.some Jvm.ClassFile.FieldType.boolean) :: cfB) ({ frames := 0, cells := 0, slots := 0, locals := 0 }) (va_Pc [.ref (K 101)] (cf_Pre D K sz ([]))) (va_Qi (fun (x : Int32) (_ : Unit) => x = r) (fun (_ : Unit) t => cf_At D (va_A ([]) sz) ([]) t) (va_A ([]) sz)) 0 0 (va_A ([]) sz) := by
  refine cf_ofW (y := yJString_isLatin1_) (As := [.ref (K 101)]) (WS := []) (maxL := 1) (fun A => (va_Qi (fun (x : Int32) (_ : Unit) => x = r) (fun (_ : Unit) t => cf_At D A ([]) t) A)) (by decide) (Nat.le_of_ble_eq_true rfl) ?_
  intro p e s m below meth c A ls En hsz hA hP hD hE hS hl
  have C : (dc_C p s m (([.ref (K 101)] : List Value).toArray) meth c cJString_isLatin1_ 1 (Option.some Jvm.ClassFile.FieldType.boolean) yJString_isLatin1_ ∧ cf_E D K A s s.heap ∧ ∀ q, s.heap.size ≤ q → A q) := ⟨En, hE, hA⟩
  exact bJString_isLatin1__S1_0 C r h hP hD hS hl
set_option maxHeartbeats 4000000 in
set_option maxRecDepth 100000 in
theorem bJStringLatin1_charAt_ABI_B1_0 {p : Program} {l : Launch} {e : Env} {s : State} {m : MethodId} {below : List Frame} {meth : Method} {c : Code} {A : Nat → Prop} {D : va_G} {K : Nat → ClassId} {AR : Array Value} (C : (dc_C p s m AR meth c cJStringLatin1_charAt_ABI 2 (Option.some Jvm.ClassFile.FieldType.char) yJStringLatin1_charAt_ABI ∧ cf_E D K A s s.heap ∧ ∀ q, s.heap.size ≤ q → A q)) (v1 : Int32) (r : Int32) (h : fJStringLatin1_charAt_ABI_B1_0 v1 = some r) {H : Heap} {locs : List Loc} {ls : Array Slot} (hP : va_P D vwCl ([]) H) (hD : va_D A ([])) (hS : va_S A s.heap H locs) (hl : lv_has ls 2 [(0, .ref (K 201)), (1, .int v1)]) : W p l e ({ frames := 2, cells := 0, slots := 0, locals := 43 }) s m AR below meth c H locs 0 0 (MQ below (va_Qi (fun (x : Int32) (_ : Unit) => x = r) (fun (_ : Unit) t => cf_At D A ([]) t) A) AR s 0 0 A) (F0 m 0 ls []) := by
  obtain ⟨⟨hx, hb, hr, hts, hown, hlocks, hin, hml⟩, hE, hA⟩ := id C
  have hK := hE.k
  refine lv_iload_n hx hb dJStringLatin1_charAt_ABI_0 rfl (lv_at hl 1 rfl) ?_
  refine lv_aload_n hx hb dJStringLatin1_charAt_ABI_1 rfl (lv_at hl 0 rfl) ?_
  refine va_tlen (v := 4) hx hb (hE.s 1 rfl).2.2.2.2 hS rfl dJStringLatin1_charAt_ABI_2 ?_
  obtain ⟨q_1, hq_1, h⟩ := op_b h
  refine dc_callv (va_runS (As := [.int v1, .int 4]) (rest := []) ⟨hx, hb, hml, hown, hts⟩ (mJString_checkIndex_II l D K _ v1 4 _ hq_1) (va_cwS 2 hts (cf_GS wv_780 wv_781 wv_168 wv_782) rfl rfl rfl (by decide +kernel) ⟨Nat.le_of_ble_eq_true rfl, Nat.le_of_ble_eq_true rfl⟩) (dc_preS hE hP hD hS hA) rfl rfl hl.1 rfl (lv_room (Nat.le_of_ble_eq_true rfl)) dJStringLatin1_charAt_ABI_3 ⟨Nat.le_of_ble_eq_true rfl, Nat.le_of_ble_eq_true rfl⟩) hP hD hS hA (fun H locs hP hD hS => ?_)
  refine lv_aload_n hx hb dJStringLatin1_charAt_ABI_6 rfl (lv_at hl 0 rfl) ?_
  refine lv_iload_n hx hb dJStringLatin1_charAt_ABI_7 rfl (lv_at hl 1 rfl) ?_
  obtain ⟨hi_3, h⟩ := op_n h
  refine va_tb hx hb (hE.s 1 rfl).2.2.2.2 hS (i := v1) hi_3 (v := .int (cf_sb 1 v1.toNatClampNeg)) rfl dJStringLatin1_charAt_ABI_8 ?_
  refine lv_topi (fun x_4 ex_4 => ?_)
  have h := op_ks ex_4 h
  refine lv_sipush (v := 255) hx hb dJStringLatin1_charAt_ABI_9 (by decide) ?_
  refine lv_iand hx hb dJStringLatin1_charAt_ABI_12 ?_
  refine lv_topi (fun x_5 ex_5 => ?_)
  have h := op_ks ex_5 h
  refine lv_i2c hx hb dJStringLatin1_charAt_ABI_13 rfl ?_
  refine lv_topi (fun x_6 ex_6 => ?_)
  have h := op_ks ex_6 h
  obtain ⟨hz_7, h⟩ := op_w h
  obtain rfl := Option.some.inj h
  exact dc_zretn hx hb hr (op_nc hz_7) hlocks rfl hP hD hS dJStringLatin1_charAt_ABI_14
set_option maxRecDepth 100000 in
theorem mJStringLatin1_charAt_ABI_B1 (l : Launch) (D : va_G) (K : Nat → ClassId) (sz : Nat) (v1 : Int32) (r : Int32) (h : fJStringLatin1_charAt_ABI_B1 v1 = some r) : Met l yJStringLatin1_charAt_ABI (Cond.code yJStringLatin1_charAt_ABI cJStringLatin1_charAt_ABI 2 (Option.some Jvm.ClassFile.FieldType.char) :: cfB) ({ frames := 2, cells := 0, slots := 0, locals := 43 }) (va_Pc [.ref (K 201), .int v1] (cf_Pre D K sz ([]))) (va_Qi (fun (x : Int32) (_ : Unit) => x = r) (fun (_ : Unit) t => cf_At D (va_A ([]) sz) ([]) t) (va_A ([]) sz)) 0 0 (va_A ([]) sz) := by
  refine cf_ofW (y := yJStringLatin1_charAt_ABI) (As := [.ref (K 201), .int v1]) (WS := []) (maxL := 2) (fun A => (va_Qi (fun (x : Int32) (_ : Unit) => x = r) (fun (_ : Unit) t => cf_At D A ([]) t) A)) (by decide) (Nat.le_of_ble_eq_true rfl) ?_
  intro p e s m below meth c A ls En hsz hA hP hD hE hS hl
  have C : (dc_C p s m (([.ref (K 201), .int v1] : List Value).toArray) meth c cJStringLatin1_charAt_ABI 2 (Option.some Jvm.ClassFile.FieldType.char) yJStringLatin1_charAt_ABI ∧ cf_E D K A s s.heap ∧ ∀ q, s.heap.size ≤ q → A q) := ⟨En, hE, hA⟩
  exact bJStringLatin1_charAt_ABI_B1_0 C v1 r h hP hD hS hl
set_option maxHeartbeats 4000000 in
set_option maxRecDepth 100000 in
theorem bJString_charAt_I_S1_0 {p : Program} {l : Launch} {e : Env} {s : State} {m : MethodId} {below : List Frame} {meth : Method} {c : Code} {A : Nat → Prop} {D : va_G} {K : Nat → ClassId} {AR : Array Value} (C : (dc_C p s m AR meth c cJString_charAt_I 2 (Option.some Jvm.ClassFile.FieldType.char) yJString_charAt_I ∧ cf_E D K A s s.heap ∧ ∀ q, s.heap.size ≤ q → A q)) (v1 : Int32) (r : Int32) (h : fJString_charAt_I_S1_0 v1 = some r) {H : Heap} {locs : List Loc} {ls : Array Slot} (hP : va_P D vwCl ([]) H) (hD : va_D A ([])) (hS : va_S A s.heap H locs) (hl : lv_has ls 2 [(0, .ref (K 101)), (1, .int v1)]) : W p l e ({ frames := 3, cells := 0, slots := 0, locals := 64 }) s m AR below meth c H locs 0 0 (MQ below (va_Qi (fun (x : Int32) (_ : Unit) => x = r) (fun (_ : Unit) t => cf_At D A ([]) t) A) AR s 0 0 A) (F0 m 0 ls []) := by
  obtain ⟨⟨hx, hb, hr, hts, hown, hlocks, hin, hml⟩, hE, hA⟩ := id C
  have hK := hE.k
  refine lv_aload_n hx hb dJString_charAt_I_0 rfl (lv_at hl 0 rfl) ?_
  obtain ⟨q_1, hq_1, h⟩ := op_b h
  refine cf_calli (wc := []) (wr := []) (va_runV (As := []) (rest := []) ⟨hx, hb, hml, hown, hts⟩ (mJString_isLatin1__S1 l D K _ _ hq_1) (cwV 0 hts (cf_GV wv_773 wv_774 wv_775 wv_168 wv_776) rfl rfl rfl (by decide +kernel) ⟨Nat.le_of_ble_eq_true rfl, Nat.le_of_ble_eq_true rfl⟩) (cf_preO (wc := []) (hE.s 1 rfl).2.1 hE hP hD hS hA [] rfl (by decide +kernel)) rfl rfl hl.1 rfl (lv_room (Nat.le_of_ble_eq_true rfl)) dJString_charAt_I_1 ⟨Nat.le_of_ble_eq_true rfl, Nat.le_of_ble_eq_true rfl⟩) hP hD hS hA [] [] rfl rfl (by decide +kernel) (by decide +kernel) (fun r_2 _ H locs hw_3 hP hD hS => ?_)
  subst r_2
  have hP : va_P D vwCl ([]) H := hP.sub [] rfl
  have hD : va_D A ([]) := hD.sub [] (by decide +kernel) rfl
  refine lv_if_eq (tgt := 16) hx hb dJString_charAt_I_4 (by decide) (fun c_4 => ?_) (fun c_4 => ?_)
  · have h := op_t c_4 h
    refine lv_aload_n hx hb dJString_charAt_I_16 rfl (lv_at hl 0 rfl) ?_
    refine vk_getf hx hb (hE.s 1 rfl).2.2.2.1 hS hown (hts _ wv_1735) (fun _ h9 => h9) dJString_charAt_I_17 ?_
    refine lv_iload_n hx hb dJString_charAt_I_20 rfl (lv_at hl 1 rfl) ?_
    cases h
  · have h := op_f c_4 h
    refine lv_aload_n hx hb dJString_charAt_I_7 rfl (lv_at hl 0 rfl) ?_
    refine vk_getf hx hb (hE.s 1 rfl).2.2.2.1 hS hown (hts _ wv_1735) (fun _ h9 => h9) dJString_charAt_I_8 ?_
    refine lv_iload_n hx hb dJString_charAt_I_11 rfl (lv_at hl 1 rfl) ?_
    obtain ⟨q_5, hq_5, h⟩ := op_b h
    refine dc_calli (va_runS (As := [.ref (K 201), .int v1]) (rest := []) ⟨hx, hb, hml, hown, hts⟩ (mJStringLatin1_charAt_ABI_B1 l D K _ v1 _ hq_5) (va_cwS 2 hts (cf_GS wv_777 wv_778 wv_179 wv_779) rfl rfl rfl (by decide +kernel) ⟨Nat.le_of_ble_eq_true rfl, Nat.le_of_ble_eq_true rfl⟩) (dc_preS hE hP hD hS hA) rfl rfl hl.1 rfl (lv_room (Nat.le_of_ble_eq_true rfl)) dJString_charAt_I_12 ⟨Nat.le_of_ble_eq_true rfl, Nat.le_of_ble_eq_true rfl⟩) hP hD hS hA (fun r_6 H locs hw_7 hP hD hS => ?_)
    subst r_6
    obtain ⟨hz_8, h⟩ := op_w h
    obtain rfl := Option.some.inj h
    exact dc_zretn hx hb hr (op_nc hz_8) hlocks rfl hP hD hS dJString_charAt_I_15
set_option maxRecDepth 100000 in
theorem mJString_charAt_I_S1 (l : Launch) (D : va_G) (K : Nat → ClassId) (sz : Nat) (v1 : Int32) (r : Int32) (h : fJString_charAt_I_S1 v1 = some r) : Met l yJString_charAt_I (Cond.code yJString_charAt_I cJString_charAt_I 2 (Option.some Jvm.ClassFile.FieldType.char) :: cfB) ({ frames := 3, cells := 0, slots := 0, locals := 64 }) (va_Pc [.ref (K 101), .int v1] (cf_Pre D K sz ([]))) (va_Qi (fun (x : Int32) (_ : Unit) => x = r) (fun (_ : Unit) t => cf_At D (va_A ([]) sz) ([]) t) (va_A ([]) sz)) 0 0 (va_A ([]) sz) := by
  refine cf_ofW (y := yJString_charAt_I) (As := [.ref (K 101), .int v1]) (WS := []) (maxL := 2) (fun A => (va_Qi (fun (x : Int32) (_ : Unit) => x = r) (fun (_ : Unit) t => cf_At D A ([]) t) A)) (by decide) (Nat.le_of_ble_eq_true rfl) ?_
  intro p e s m below meth c A ls En hsz hA hP hD hE hS hl
  have C : (dc_C p s m (([.ref (K 101), .int v1] : List Value).toArray) meth c cJString_charAt_I 2 (Option.some Jvm.ClassFile.FieldType.char) yJString_charAt_I ∧ cf_E D K A s s.heap ∧ ∀ q, s.heap.size ≤ q → A q) := ⟨En, hE, hA⟩
  exact bJString_charAt_I_S1_0 C v1 r h hP hD hS hl
def IhTx_isWord_S1 (p : Program) (l : Launch) (e : Env) (s : State) (m : MethodId) (below : List Frame) (meth : Method) (c : Code) (A : Nat → Prop) (D : va_G) (K : Nat → ClassId) (h0 : Nat) (a0 : Nat → Nat) (AR : Array Value) (n : Nat) : Prop := (∀ (v1 : Int32) (v3 : Int32) (o0 : cf_O) (r : Int32), gTx_isWord_S1 n 0 v1 v3 o0 = some r → ∀ {H : Heap} {locs : List Loc} {ls : Array Slot}, (va_P D vwCl (wTx K h0 a0 o0) H) → (va_D A (wTx K h0 a0 o0)) → va_S A s.heap H locs → lv_has ls 4 [(0, .ref h0), (1, .int v1), (2, .ref (K 101)), (3, .int v3)] → W p l e ({ frames := 4, cells := 0, slots := 0, locals := 85 }) s m AR below meth c H locs 0 0 (MQ below (va_Qi (fun (x : Int32) (_ : Unit) => x = r) (fun (_ : Unit) t => cf_At D A (wTx K h0 a0 o0) t) A) AR s 0 0 A) (F0 m 16 ls []))
set_option maxHeartbeats 4000000 in
set_option maxRecDepth 100000 in
theorem bTx_isWord_S1_16 {p : Program} {l : Launch} {e : Env} {s : State} {m : MethodId} {below : List Frame} {meth : Method} {c : Code} {A : Nat → Prop} {D : va_G} {K : Nat → ClassId} {h0 : Nat} {a0 : Nat → Nat} {AR : Array Value} (C : (dc_C p s m AR meth c cTx_isWord 4 (Option.some Jvm.ClassFile.FieldType.boolean) yTx_isWord ∧ cf_E D K A s s.heap ∧ ∀ q, s.heap.size ≤ q → A q)) {n : Nat} (ih : IhTx_isWord_S1 p l e s m below meth c A D K h0 a0 AR n) (v1 : Int32) (v3 : Int32) (o0 : cf_O) (r : Int32) (h : fTx_isWord_S1_16 (gTx_isWord_S1 n) v1 v3 o0 = some r) {H : Heap} {locs : List Loc} {ls : Array Slot} (hP : va_P D vwCl (wTx K h0 a0 o0) H) (hD : va_D A (wTx K h0 a0 o0)) (hS : va_S A s.heap H locs) (hl : lv_has ls 4 [(0, .ref h0), (1, .int v1), (2, .ref (K 101)), (3, .int v3)]) : W p l e ({ frames := 4, cells := 0, slots := 0, locals := 85 }) s m AR below meth c H locs 0 0 (MQ below (va_Qi (fun (x : Int32) (_ : Unit) => x = r) (fun (_ : Unit) t => cf_At D A (wTx K h0 a0 o0) t) A) AR s 0 0 A) (F0 m 16 ls []) := by
  obtain ⟨⟨hx, hb, hr, hts, hown, hlocks, hin, hml⟩, hE, hA⟩ := id C
  have hK := hE.k
  refine lv_iload_n hx hb dTx_isWord_16 rfl (lv_at hl 3 rfl) ?_
  refine lv_aload_n hx hb dTx_isWord_17 rfl (lv_at hl 2 rfl) ?_
  obtain ⟨q_1, hq_1, h⟩ := op_b h
  refine cf_calli (wc := []) (wr := wTx K h0 a0 o0) (va_runV (As := []) (rest := [.int v3]) ⟨hx, hb, hml, hown, hts⟩ (mJString_length__S1 l D K _ _ hq_1) (cwV 0 hts (cf_GV wv_756 wv_757 wv_758 wv_168 wv_759) rfl rfl rfl (by decide +kernel) ⟨Nat.le_of_ble_eq_true rfl, Nat.le_of_ble_eq_true rfl⟩) (cf_preO (wc := []) (hE.s 1 rfl).2.1 hE hP hD hS hA [] rfl (by decide +kernel)) rfl rfl hl.1 rfl (lv_room (Nat.le_of_ble_eq_true rfl)) dTx_isWord_18 ⟨Nat.le_of_ble_eq_true rfl, Nat.le_of_ble_eq_true rfl⟩) hP hD hS hA [] [0, 1, 2, 3] rfl rfl (by decide +kernel) (by decide +kernel) (fun r_2 _ H locs hw_3 hP hD hS => ?_)
  subst r_2
  have hP : va_P D vwCl (wTx K h0 a0 o0) H := hP.sub [0, 1, 2, 3] rfl
  have hD : va_D A (wTx K h0 a0 o0) := hD.sub [0, 1, 2, 3] (by decide +kernel) rfl
  refine lv_icmp_ge (tgt := 46) hx hb dTx_isWord_21 (by decide) (fun c_4 => ?_) (fun c_4 => ?_)
  · have h := op_t c_4 h
    refine lv_iconst (v := 1) hx hb dTx_isWord_46 (by decide) ?_
    obtain rfl := Option.some.inj h
    exact dc_zret hx hb hr rfl hlocks rfl hP hD hS dTx_isWord_47
  · have h := op_f c_4 h
    refine lv_aload_n hx hb dTx_isWord_24 rfl (lv_at hl 0 rfl) ?_
    refine lv_iload_n hx hb dTx_isWord_25 rfl (lv_at hl 1 rfl) ?_
    refine lv_iload_n hx hb dTx_isWord_26 rfl (lv_at hl 3 rfl) ?_
    obtain ⟨q_5, hq_5, h⟩ := op_b h
    refine dc_calli (va_runV (As := [.int v1, .int v3]) (rest := []) ⟨hx, hb, hml, hown, hts⟩ (mTx_signOf l D K _ v1 v3 h0 a0 o0 _ hq_5) (cwV 2 hts (cf_GV wv_765 wv_766 wv_767 wv_158 wv_768) rfl rfl rfl (by decide +kernel) ⟨Nat.le_of_ble_eq_true rfl, Nat.le_of_ble_eq_true rfl⟩) (dc_preV hE hP hD hS hA rfl 0 rfl) rfl rfl hl.1 rfl (lv_room (Nat.le_of_ble_eq_true rfl)) dTx_isWord_27 ⟨Nat.le_of_ble_eq_true rfl, Nat.le_of_ble_eq_true rfl⟩) hP hD hS hA (fun r_6 H locs hw_7 hP hD hS => ?_)
    subst r_6
    refine lv_aload_n hx hb dTx_isWord_30 rfl (lv_at hl 2 rfl) ?_
    refine lv_iload_n hx hb dTx_isWord_31 rfl (lv_at hl 3 rfl) ?_
    obtain ⟨q_8, hq_8, h⟩ := op_b h
    refine cf_calli (wc := []) (wr := wTx K h0 a0 o0) (va_runV (As := [.int v3]) (rest := [.int q_5]) ⟨hx, hb, hml, hown, hts⟩ (mJString_charAt_I_S1 l D K _ v3 _ hq_8) (cwV 1 hts (cf_GV wv_769 wv_770 wv_771 wv_168 wv_772) rfl rfl rfl (by decide +kernel) ⟨Nat.le_of_ble_eq_true rfl, Nat.le_of_ble_eq_true rfl⟩) (cf_preO (wc := []) (hE.s 1 rfl).2.1 hE hP hD hS hA [] rfl (by decide +kernel)) rfl rfl hl.1 rfl (lv_room (Nat.le_of_ble_eq_true rfl)) dTx_isWord_32 ⟨Nat.le_of_ble_eq_true rfl, Nat.le_of_ble_eq_true rfl⟩) hP hD hS hA [] [0, 1, 2, 3] rfl rfl (by decide +kernel) (by decide +kernel) (fun r_9 _ H locs hw_10 hP hD hS => ?_)
    subst r_9
    have hP : va_P D vwCl (wTx K h0 a0 o0) H := hP.sub [0, 1, 2, 3] rfl
    have hD : va_D A (wTx K h0 a0 o0) := hD.sub [0, 1, 2, 3] (by decide +kernel) rfl
    refine lv_icmp_eq (tgt := 40) hx hb dTx_isWord_35 (by decide) (fun c_11 => ?_) (fun c_11 => ?_)
    · have h := op_t c_11 h
      obtain ⟨x_12, ex_12⟩ : ∃ y : Int32, y = v3 + 1 := ⟨_, rfl⟩
      refine lv_iinc (v := x_12) (lv' := [(3, .int x_12), (0, .ref h0), (1, .int v1), (2, .ref (K 101))]) hx hb dTx_isWord_40 hl (k := 3) rfl (by rw [ex_12]; rfl) (by decide) rfl (fun ls hl => ?_)
      have h := op_ks ex_12 h
      refine lv_goto (tgt := 16) hx hb dTx_isWord_43 (by decide) ?_
      exact (ih) _ _ _ _ h hP hD hS (lv_sub hl [1, 2, 3, 0] rfl)
    · have h := op_f c_11 h
      refine lv_iconst (v := 0) hx hb dTx_isWord_38 (by decide) ?_
      obtain rfl := Option.some.inj h
      exact dc_zret hx hb hr rfl hlocks rfl hP hD hS dTx_isWord_39
set_option maxHeartbeats 4000000 in
set_option maxRecDepth 100000 in
theorem bTx_isWord_S1_0 {p : Program} {l : Launch} {e : Env} {s : State} {m : MethodId} {below : List Frame} {meth : Method} {c : Code} {A : Nat → Prop} {D : va_G} {K : Nat → ClassId} {h0 : Nat} {a0 : Nat → Nat} {AR : Array Value} (C : (dc_C p s m AR meth c cTx_isWord 4 (Option.some Jvm.ClassFile.FieldType.boolean) yTx_isWord ∧ cf_E D K A s s.heap ∧ ∀ q, s.heap.size ≤ q → A q)) {n : Nat} (ih : IhTx_isWord_S1 p l e s m below meth c A D K h0 a0 AR n) (v1 : Int32) (o0 : cf_O) (r : Int32) (h : fTx_isWord_S1_0 (gTx_isWord_S1 n) v1 o0 = some r) {H : Heap} {locs : List Loc} {ls : Array Slot} (hP : va_P D vwCl (wTx K h0 a0 o0) H) (hD : va_D A (wTx K h0 a0 o0)) (hS : va_S A s.heap H locs) (hl : lv_has ls 4 [(0, .ref h0), (1, .int v1), (2, .ref (K 101))]) : W p l e ({ frames := 4, cells := 0, slots := 0, locals := 85 }) s m AR below meth c H locs 0 0 (MQ below (va_Qi (fun (x : Int32) (_ : Unit) => x = r) (fun (_ : Unit) t => cf_At D A (wTx K h0 a0 o0) t) A) AR s 0 0 A) (F0 m 0 ls []) := by
  obtain ⟨⟨hx, hb, hr, hts, hown, hlocks, hin, hml⟩, hE, hA⟩ := id C
  have hK := hE.k
  refine lv_aload_n hx hb dTx_isWord_0 rfl (lv_at hl 0 rfl) ?_
  refine lv_iload_n hx hb dTx_isWord_1 rfl (lv_at hl 1 rfl) ?_
  obtain ⟨q_1, hq_1, h⟩ := op_b h
  refine dc_calli (va_runV (As := [.int v1]) (rest := []) ⟨hx, hb, hml, hown, hts⟩ (mTx_length l D K _ v1 h0 a0 o0 _ hq_1) (cwV 1 hts (cf_GV wv_752 wv_753 wv_754 wv_158 wv_755) rfl rfl rfl (by decide +kernel) ⟨Nat.le_of_ble_eq_true rfl, Nat.le_of_ble_eq_true rfl⟩) (dc_preV hE hP hD hS hA rfl 0 rfl) rfl rfl hl.1 rfl (lv_room (Nat.le_of_ble_eq_true rfl)) dTx_isWord_2 ⟨Nat.le_of_ble_eq_true rfl, Nat.le_of_ble_eq_true rfl⟩) hP hD hS hA (fun r_2 H locs hw_3 hP hD hS => ?_)
  subst r_2
  refine lv_aload_n hx hb dTx_isWord_5 rfl (lv_at hl 2 rfl) ?_
  obtain ⟨q_4, hq_4, h⟩ := op_b h
  refine cf_calli (wc := []) (wr := wTx K h0 a0 o0) (va_runV (As := []) (rest := [.int q_1]) ⟨hx, hb, hml, hown, hts⟩ (mJString_length__S1 l D K _ _ hq_4) (cwV 0 hts (cf_GV wv_756 wv_757 wv_758 wv_168 wv_759) rfl rfl rfl (by decide +kernel) ⟨Nat.le_of_ble_eq_true rfl, Nat.le_of_ble_eq_true rfl⟩) (cf_preO (wc := []) (hE.s 1 rfl).2.1 hE hP hD hS hA [] rfl (by decide +kernel)) rfl rfl hl.1 rfl (lv_room (Nat.le_of_ble_eq_true rfl)) dTx_isWord_6 ⟨Nat.le_of_ble_eq_true rfl, Nat.le_of_ble_eq_true rfl⟩) hP hD hS hA [] [0, 1, 2, 3] rfl rfl (by decide +kernel) (by decide +kernel) (fun r_5 _ H locs hw_6 hP hD hS => ?_)
  subst r_5
  have hP : va_P D vwCl (wTx K h0 a0 o0) H := hP.sub [0, 1, 2, 3] rfl
  have hD : va_D A (wTx K h0 a0 o0) := hD.sub [0, 1, 2, 3] (by decide +kernel) rfl
  refine lv_icmp_eq (tgt := 14) hx hb dTx_isWord_9 (by decide) (fun c_7 => ?_) (fun c_7 => ?_)
  · have h := op_t c_7 h
    refine lv_iconst (v := 0) hx hb dTx_isWord_14 (by decide) ?_
    refine lv_istore_n (lv' := [(3, .int 0), (0, .ref h0), (1, .int v1), (2, .ref (K 101))]) hx hb dTx_isWord_15 rfl hl (by decide) rfl (fun ls hl => ?_)
    exact (ih) _ _ _ _ h hP hD hS (lv_sub hl [1, 2, 3, 0] rfl)
  · have h := op_f c_7 h
    refine lv_iconst (v := 0) hx hb dTx_isWord_12 (by decide) ?_
    obtain rfl := Option.some.inj h
    exact dc_zret hx hb hr rfl hlocks rfl hP hD hS dTx_isWord_13
theorem iTx_isWord_S1 {p : Program} {l : Launch} {e : Env} {s : State} {m : MethodId} {below : List Frame} {meth : Method} {c : Code} {A : Nat → Prop} {D : va_G} {K : Nat → ClassId} {h0 : Nat} {a0 : Nat → Nat} {AR : Array Value} (C : (dc_C p s m AR meth c cTx_isWord 4 (Option.some Jvm.ClassFile.FieldType.boolean) yTx_isWord ∧ cf_E D K A s s.heap ∧ ∀ q, s.heap.size ≤ q → A q)) : ∀ n, IhTx_isWord_S1 p l e s m below meth c A D K h0 a0 AR n := by
  intro n
  induction n with
  | zero => exact (fun _ _ _ r h => by cases (show none = some r from h))
  | succ n ih => exact fun x0 x1 x2 r h _ _ _ hP hD hS hl => bTx_isWord_S1_16 C ih x0 x1 x2 r h hP hD hS hl
set_option maxRecDepth 100000 in
theorem mTx_isWord_S1 (l : Launch) (D : va_G) (K : Nat → ClassId) (sz : Nat) (v1 : Int32) (h0 : Nat) (a0 : Nat → Nat) (o0 : cf_O) (r : Int32) (h : fTx_isWord_S1 v1 o0 = some r) : Met l yTx_isWord (Cond.code yTx_isWord cTx_isWord 4 (Option.some Jvm.ClassFile.FieldType.boolean) :: cfB) ({ frames := 4, cells := 0, slots := 0, locals := 85 }) (va_Pc [.ref h0, .int v1, .ref (K 101)] (cf_Pre D K sz (wTx K h0 a0 o0))) (va_Qi (fun (x : Int32) (_ : Unit) => x = r) (fun (_ : Unit) t => cf_At D (va_A (wTx K h0 a0 o0) sz) (wTx K h0 a0 o0) t) (va_A (wTx K h0 a0 o0) sz)) 0 0 (va_A (wTx K h0 a0 o0) sz) := by
  refine cf_ofW (y := yTx_isWord) (As := [.ref h0, .int v1, .ref (K 101)]) (WS := wTx K h0 a0 o0) (maxL := 4) (fun A => (va_Qi (fun (x : Int32) (_ : Unit) => x = r) (fun (_ : Unit) t => cf_At D A (wTx K h0 a0 o0) t) A)) (by decide) (Nat.le_of_ble_eq_true rfl) ?_
  intro p e s m below meth c A ls En hsz hA hP hD hE hS hl
  have C : (dc_C p s m (([.ref h0, .int v1, .ref (K 101)] : List Value).toArray) meth c cTx_isWord 4 (Option.some Jvm.ClassFile.FieldType.boolean) yTx_isWord ∧ cf_E D K A s s.heap ∧ ∀ q, s.heap.size ≤ q → A q) := ⟨En, hE, hA⟩
  exact bTx_isWord_S1_0 C (iTx_isWord_S1 C cfFU) v1 o0 r h hP hD hS hl
set_option maxHeartbeats 4000000 in
set_option maxRecDepth 100000 in
theorem bTx_isNameSign_47 {p : Program} {l : Launch} {e : Env} {s : State} {m : MethodId} {below : List Frame} {meth : Method} {c : Code} {AR : Array Value} (C : dc_C p s m AR meth c cTx_isNameSign 1 (Option.some Jvm.ClassFile.FieldType.boolean) yTx_isNameSign) (s0 : Int32) (r : Int32) (h : fTx_isNameSign_47 s0 = some r) {ls : Array Slot} (hl : lv_has ls 1 []) : W p l e ({ frames := 0, cells := 0, slots := 0, locals := 0 }) s m AR below meth c s.heap [] 0 0 (MQ below (cf_Pi (fun x => x = r)) AR s 0 0 (fun _ => False)) (F0 m 47 ls [.int s0]) := by
  obtain ⟨hx, hb, hr, hts, hown, hlocks, hin, hml⟩ := id C
  obtain ⟨hz_1, h⟩ := op_w h
  obtain rfl := Option.some.inj h
  exact W.zret hx hb hr (op_z hz_1) (fun t ht hW => ⟨_, rfl, rfl, ht⟩) cf_pnil dTx_isNameSign_47 hlocks
set_option maxHeartbeats 4000000 in
set_option maxRecDepth 100000 in
theorem bTx_isNameSign_42 {p : Program} {l : Launch} {e : Env} {s : State} {m : MethodId} {below : List Frame} {meth : Method} {c : Code} {AR : Array Value} (C : dc_C p s m AR meth c cTx_isNameSign 1 (Option.some Jvm.ClassFile.FieldType.boolean) yTx_isNameSign) (r : Int32) (h : fTx_isNameSign_42 = some r) {ls : Array Slot} (hl : lv_has ls 1 []) : W p l e ({ frames := 0, cells := 0, slots := 0, locals := 0 }) s m AR below meth c s.heap [] 0 0 (MQ below (cf_Pi (fun x => x = r)) AR s 0 0 (fun _ => False)) (F0 m 42 ls []) := by
  obtain ⟨hx, hb, hr, hts, hown, hlocks, hin, hml⟩ := id C
  refine lv_iconst (v := 1) hx hb dTx_isNameSign_42 (by decide) ?_
  refine lv_goto (tgt := 47) hx hb dTx_isNameSign_43 (by decide) ?_
  exact bTx_isNameSign_47 C _ _ h (lv_sub hl [] rfl)
set_option maxHeartbeats 4000000 in
set_option maxRecDepth 100000 in
theorem bTx_isNameSign_36 {p : Program} {l : Launch} {e : Env} {s : State} {m : MethodId} {below : List Frame} {meth : Method} {c : Code} {AR : Array Value} (C : dc_C p s m AR meth c cTx_isNameSign 1 (Option.some Jvm.ClassFile.FieldType.boolean) yTx_isNameSign) (v0 : Int32) (r : Int32) (h : fTx_isNameSign_36 v0 = some r) {ls : Array Slot} (hl : lv_has ls 1 [(0, .int v0)]) : W p l e ({ frames := 0, cells := 0, slots := 0, locals := 0 }) s m AR below meth c s.heap [] 0 0 (MQ below (cf_Pi (fun x => x = r)) AR s 0 0 (fun _ => False)) (F0 m 36 ls []) := by
  obtain ⟨hx, hb, hr, hts, hown, hlocks, hin, hml⟩ := id C
  refine lv_iload_n hx hb dTx_isNameSign_36 rfl (lv_at hl 0 rfl) ?_
  refine lv_bipush (v := 95) hx hb dTx_isNameSign_37 (by decide) ?_
  refine lv_icmp_ne (tgt := 46) hx hb dTx_isNameSign_39 (by decide) (fun c_1 => ?_) (fun c_1 => ?_)
  · have h := op_f c_1 h
    refine lv_iconst (v := 0) hx hb dTx_isNameSign_46 (by decide) ?_
    exact bTx_isNameSign_47 C _ _ h (lv_sub hl [] rfl)
  · have h := op_t c_1 h
    exact bTx_isNameSign_42 C _ h (lv_sub hl [] rfl)
set_option maxHeartbeats 4000000 in
set_option maxRecDepth 100000 in
theorem bTx_isNameSign_24 {p : Program} {l : Launch} {e : Env} {s : State} {m : MethodId} {below : List Frame} {meth : Method} {c : Code} {AR : Array Value} (C : dc_C p s m AR meth c cTx_isNameSign 1 (Option.some Jvm.ClassFile.FieldType.boolean) yTx_isNameSign) (v0 : Int32) (r : Int32) (h : fTx_isNameSign_24 v0 = some r) {ls : Array Slot} (hl : lv_has ls 1 [(0, .int v0)]) : W p l e ({ frames := 0, cells := 0, slots := 0, locals := 0 }) s m AR below meth c s.heap [] 0 0 (MQ below (cf_Pi (fun x => x = r)) AR s 0 0 (fun _ => False)) (F0 m 24 ls []) := by
  obtain ⟨hx, hb, hr, hts, hown, hlocks, hin, hml⟩ := id C
  refine lv_iload_n hx hb dTx_isNameSign_24 rfl (lv_at hl 0 rfl) ?_
  refine lv_bipush (v := 48) hx hb dTx_isNameSign_25 (by decide) ?_
  refine lv_icmp_lt (tgt := 36) hx hb dTx_isNameSign_27 (by decide) (fun c_1 => ?_) (fun c_1 => ?_)
  · have h := op_t c_1 h
    exact bTx_isNameSign_36 C _ _ h (lv_sub hl [0] rfl)
  · have h := op_f c_1 h
    refine lv_iload_n hx hb dTx_isNameSign_30 rfl (lv_at hl 0 rfl) ?_
    refine lv_bipush (v := 57) hx hb dTx_isNameSign_31 (by decide) ?_
    refine lv_icmp_le (tgt := 42) hx hb dTx_isNameSign_33 (by decide) (fun c_2 => ?_) (fun c_2 => ?_)
    · have h := op_t c_2 h
      exact bTx_isNameSign_42 C _ h (lv_sub hl [] rfl)
    · have h := op_f c_2 h
      exact bTx_isNameSign_36 C _ _ h (lv_sub hl [0] rfl)
set_option maxHeartbeats 4000000 in
set_option maxRecDepth 100000 in
theorem bTx_isNameSign_12 {p : Program} {l : Launch} {e : Env} {s : State} {m : MethodId} {below : List Frame} {meth : Method} {c : Code} {AR : Array Value} (C : dc_C p s m AR meth c cTx_isNameSign 1 (Option.some Jvm.ClassFile.FieldType.boolean) yTx_isNameSign) (v0 : Int32) (r : Int32) (h : fTx_isNameSign_12 v0 = some r) {ls : Array Slot} (hl : lv_has ls 1 [(0, .int v0)]) : W p l e ({ frames := 0, cells := 0, slots := 0, locals := 0 }) s m AR below meth c s.heap [] 0 0 (MQ below (cf_Pi (fun x => x = r)) AR s 0 0 (fun _ => False)) (F0 m 12 ls []) := by
  obtain ⟨hx, hb, hr, hts, hown, hlocks, hin, hml⟩ := id C
  refine lv_iload_n hx hb dTx_isNameSign_12 rfl (lv_at hl 0 rfl) ?_
  refine lv_bipush (v := 65) hx hb dTx_isNameSign_13 (by decide) ?_
  refine lv_icmp_lt (tgt := 24) hx hb dTx_isNameSign_15 (by decide) (fun c_1 => ?_) (fun c_1 => ?_)
  · have h := op_t c_1 h
    exact bTx_isNameSign_24 C _ _ h (lv_sub hl [0] rfl)
  · have h := op_f c_1 h
    refine lv_iload_n hx hb dTx_isNameSign_18 rfl (lv_at hl 0 rfl) ?_
    refine lv_bipush (v := 90) hx hb dTx_isNameSign_19 (by decide) ?_
    refine lv_icmp_le (tgt := 42) hx hb dTx_isNameSign_21 (by decide) (fun c_2 => ?_) (fun c_2 => ?_)
    · have h := op_t c_2 h
      exact bTx_isNameSign_42 C _ h (lv_sub hl [] rfl)
    · have h := op_f c_2 h
      exact bTx_isNameSign_24 C _ _ h (lv_sub hl [0] rfl)
set_option maxHeartbeats 4000000 in
set_option maxRecDepth 100000 in
theorem bTx_isNameSign_0 {p : Program} {l : Launch} {e : Env} {s : State} {m : MethodId} {below : List Frame} {meth : Method} {c : Code} {AR : Array Value} (C : dc_C p s m AR meth c cTx_isNameSign 1 (Option.some Jvm.ClassFile.FieldType.boolean) yTx_isNameSign) (v0 : Int32) (r : Int32) (h : fTx_isNameSign_0 v0 = some r) {ls : Array Slot} (hl : lv_has ls 1 [(0, .int v0)]) : W p l e ({ frames := 0, cells := 0, slots := 0, locals := 0 }) s m AR below meth c s.heap [] 0 0 (MQ below (cf_Pi (fun x => x = r)) AR s 0 0 (fun _ => False)) (F0 m 0 ls []) := by
  obtain ⟨hx, hb, hr, hts, hown, hlocks, hin, hml⟩ := id C
  refine lv_iload_n hx hb dTx_isNameSign_0 rfl (lv_at hl 0 rfl) ?_
  refine lv_bipush (v := 97) hx hb dTx_isNameSign_1 (by decide) ?_
  refine lv_icmp_lt (tgt := 12) hx hb dTx_isNameSign_3 (by decide) (fun c_1 => ?_) (fun c_1 => ?_)
  · have h := op_t c_1 h
    exact bTx_isNameSign_12 C _ _ h (lv_sub hl [0] rfl)
  · have h := op_f c_1 h
    refine lv_iload_n hx hb dTx_isNameSign_6 rfl (lv_at hl 0 rfl) ?_
    refine lv_bipush (v := 122) hx hb dTx_isNameSign_7 (by decide) ?_
    refine lv_icmp_le (tgt := 42) hx hb dTx_isNameSign_9 (by decide) (fun c_2 => ?_) (fun c_2 => ?_)
    · have h := op_t c_2 h
      exact bTx_isNameSign_42 C _ h (lv_sub hl [] rfl)
    · have h := op_f c_2 h
      exact bTx_isNameSign_12 C _ _ h (lv_sub hl [0] rfl)
theorem mTx_isNameSign (l : Launch) (v0 : Int32) (r : Int32) (h : fTx_isNameSign v0 = some r) : Met l yTx_isNameSign (Cond.code yTx_isNameSign cTx_isNameSign 1 (Option.some Jvm.ClassFile.FieldType.boolean) :: cfB) ({ frames := 0, cells := 0, slots := 0, locals := 0 }) (fun v _ => v = ([.int v0] : List Value).toArray) (cf_Pi (fun x => x = r)) 0 0 (fun _ => False) := by
  refine cf_ofP (y := yTx_isNameSign) (As := [.int v0]) (maxL := 1) (cf_Pi (fun x => x = r)) (by decide) (Nat.le_of_ble_eq_true rfl) ?_
  intro p e s m below meth c ls C hl
  exact bTx_isNameSign_0 (l := l) C v0 r h hl
def IhTx_name (p : Program) (l : Launch) (e : Env) (s : State) (m : MethodId) (below : List Frame) (meth : Method) (c : Code) (A : Nat → Prop) (D : va_G) (K : Nat → ClassId) (h0 : Nat) (a0 : Nat → Nat) (AR : Array Value) (n : Nat) : Prop := (∀ (v1 : Int32) (v2 : Int64) (v4 : Int32) (o0 : cf_O) (r : Int64), gTx_name n 0 v1 v2 v4 o0 = some r → ∀ {H : Heap} {locs : List Loc} {ls : Array Slot}, (va_P D vwCl (wTx K h0 a0 o0) H) → (va_D A (wTx K h0 a0 o0)) → va_S A s.heap H locs → lv_has ls 6 [(0, .ref h0), (1, .int v1), (2, .long v2), (4, .int v4)] → W p l e ({ frames := 1, cells := 0, slots := 0, locals := 22 }) s m AR below meth c H locs 0 0 (MQ below (va_Ql (fun (x : Int64) (_ : Unit) => x = r) (fun (_ : Unit) t => cf_At D A (wTx K h0 a0 o0) t) A) AR s 0 0 A) (F0 m 17 ls []))
set_option maxHeartbeats 4000000 in
set_option maxRecDepth 100000 in
theorem bTx_name_17 {p : Program} {l : Launch} {e : Env} {s : State} {m : MethodId} {below : List Frame} {meth : Method} {c : Code} {A : Nat → Prop} {D : va_G} {K : Nat → ClassId} {h0 : Nat} {a0 : Nat → Nat} {AR : Array Value} (C : (dc_C p s m AR meth c cTx_name 6 (Option.some Jvm.ClassFile.FieldType.long) yTx_name ∧ cf_E D K A s s.heap ∧ ∀ q, s.heap.size ≤ q → A q)) {n : Nat} (ih : IhTx_name p l e s m below meth c A D K h0 a0 AR n) (v1 : Int32) (v2 : Int64) (v4 : Int32) (o0 : cf_O) (r : Int64) (h : fTx_name_17 (gTx_name n) v1 v2 v4 o0 = some r) {H : Heap} {locs : List Loc} {ls : Array Slot} (hP : va_P D vwCl (wTx K h0 a0 o0) H) (hD : va_D A (wTx K h0 a0 o0)) (hS : va_S A s.heap H locs) (hl : lv_has ls 6 [(0, .ref h0), (1, .int v1), (2, .long v2), (4, .int v4)]) : W p l e ({ frames := 1, cells := 0, slots := 0, locals := 22 }) s m AR below meth c H locs 0 0 (MQ below (va_Ql (fun (x : Int64) (_ : Unit) => x = r) (fun (_ : Unit) t => cf_At D A (wTx K h0 a0 o0) t) A) AR s 0 0 A) (F0 m 17 ls []) := by
  obtain ⟨⟨hx, hb, hr, hts, hown, hlocks, hin, hml⟩, hE, hA⟩ := id C
  have hK := hE.k
  refine lv_iload hx hb dTx_name_17 (lv_at hl 3 rfl) ?_
  refine lv_aload_n hx hb dTx_name_19 rfl (lv_at hl 0 rfl) ?_
  refine lv_iload_n hx hb dTx_name_20 rfl (lv_at hl 1 rfl) ?_
  obtain ⟨q_1, hq_1, h⟩ := op_b h
  refine dc_calli (va_runV (As := [.int v1]) (rest := [.int v4]) ⟨hx, hb, hml, hown, hts⟩ (mTx_length l D K _ v1 h0 a0 o0 _ hq_1) (cwV 1 hts (cf_GV wv_752 wv_753 wv_754 wv_158 wv_755) rfl rfl rfl (by decide +kernel) ⟨Nat.le_of_ble_eq_true rfl, Nat.le_of_ble_eq_true rfl⟩) (dc_preV hE hP hD hS hA rfl 0 rfl) rfl rfl hl.1 rfl (lv_room (Nat.le_of_ble_eq_true rfl)) dTx_name_21 ⟨Nat.le_of_ble_eq_true rfl, Nat.le_of_ble_eq_true rfl⟩) hP hD hS hA (fun r_2 H locs hw_3 hP hD hS => ?_)
  subst r_2
  refine lv_icmp_ge (tgt := 61) hx hb dTx_name_24 (by decide) (fun c_4 => ?_) (fun c_4 => ?_)
  · have h := op_t c_4 h
    refine lv_lload_n hx hb dTx_name_61 rfl (lv_at hl 2 rfl) ?_
    obtain rfl := Option.some.inj h
    exact dc_lret hx hb hr hlocks rfl hP hD hS dTx_name_62
  · have h := op_f c_4 h
    refine lv_aload_n hx hb dTx_name_27 rfl (lv_at hl 0 rfl) ?_
    refine lv_iload_n hx hb dTx_name_28 rfl (lv_at hl 1 rfl) ?_
    refine lv_iload hx hb dTx_name_29 (lv_at hl 3 rfl) ?_
    obtain ⟨q_5, hq_5, h⟩ := op_b h
    refine dc_calli (va_runV (As := [.int v1, .int v4]) (rest := []) ⟨hx, hb, hml, hown, hts⟩ (mTx_signOf l D K _ v1 v4 h0 a0 o0 _ hq_5) (cwV 2 hts (cf_GV wv_765 wv_766 wv_767 wv_158 wv_768) rfl rfl rfl (by decide +kernel) ⟨Nat.le_of_ble_eq_true rfl, Nat.le_of_ble_eq_true rfl⟩) (dc_preV hE hP hD hS hA rfl 0 rfl) rfl rfl hl.1 rfl (lv_room (Nat.le_of_ble_eq_true rfl)) dTx_name_31 ⟨Nat.le_of_ble_eq_true rfl, Nat.le_of_ble_eq_true rfl⟩) hP hD hS hA (fun r_6 H locs hw_7 hP hD hS => ?_)
    subst r_6
    refine lv_istore (lv' := [(5, .int q_5), (0, .ref h0), (1, .int v1), (2, .long v2), (4, .int v4)]) hx hb dTx_name_34 hl (by decide) rfl (fun ls hl => ?_)
    refine lv_iload hx hb dTx_name_36 (lv_at hl 0 rfl) ?_
    obtain ⟨q_8, hq_8, h⟩ := op_b h
    refine cf_pcalli (va_runS (As := [.int q_5]) (rest := []) ⟨hx, hb, hml, hown, hts⟩ (mTx_isNameSign l q_5 _ hq_8) (va_cwS 1 hts (cf_GS wv_816 wv_817 wv_158 wv_818) rfl rfl rfl (by decide +kernel) ⟨Nat.le_of_ble_eq_true rfl, Nat.le_of_ble_eq_true rfl⟩) preEq rfl rfl hl.1 rfl (lv_room (Nat.le_of_ble_eq_true rfl)) dTx_name_38 ⟨Nat.le_of_ble_eq_true rfl, Nat.le_of_ble_eq_true rfl⟩) (fun r_9 hw_10 => ?_)
    subst r_9
    refine lv_if_ne (tgt := 46) hx hb dTx_name_41 (by decide) (fun c_11 => ?_) (fun c_11 => ?_)
    · have h := op_f c_11 h
      refine lv_lload_n hx hb dTx_name_46 rfl (lv_at hl 3 rfl) ?_
      refine lv_bipush (v := 8) hx hb dTx_name_47 (by decide) ?_
      refine lv_lshl hx hb dTx_name_49 rfl ?_
      refine lv_topl (fun x_12 ex_12 => ?_)
      have h := op_ks ex_12 h
      refine lv_iload hx hb dTx_name_50 (lv_at hl 0 rfl) ?_
      refine lv_i2l hx hb dTx_name_52 rfl ?_
      refine lv_topl (fun x_13 ex_13 => ?_)
      have h := op_ks ex_13 h
      refine lv_lor hx hb dTx_name_53 ?_
      refine lv_topl (fun x_14 ex_14 => ?_)
      have h := op_ks ex_14 h
      refine lv_lstore_n (lv' := [(2, .long x_14), (5, .int q_5), (0, .ref h0), (1, .int v1), (4, .int v4)]) hx hb dTx_name_54 rfl hl (by decide) rfl (fun ls hl => ?_)
      obtain ⟨x_15, ex_15⟩ : ∃ y : Int32, y = v4 + 1 := ⟨_, rfl⟩
      refine lv_iinc (v := x_15) (lv' := [(4, .int x_15), (2, .long x_14), (5, .int q_5), (0, .ref h0), (1, .int v1)]) hx hb dTx_name_55 hl (k := 4) rfl (by rw [ex_15]; rfl) (by decide) rfl (fun ls hl => ?_)
      have h := op_ks ex_15 h
      refine lv_goto (tgt := 17) hx hb dTx_name_58 (by decide) ?_
      exact (ih) _ _ _ _ _ h hP hD hS (lv_sub hl [3, 4, 1, 0] rfl)
    · have h := op_t c_11 h
      refine lv_lconst (v := 0) hx hb dTx_name_44 (by decide) ?_
      obtain rfl := Option.some.inj h
      exact dc_lret hx hb hr hlocks rfl hP hD hS dTx_name_45
set_option maxHeartbeats 4000000 in
set_option maxRecDepth 100000 in
theorem bTx_name_0 {p : Program} {l : Launch} {e : Env} {s : State} {m : MethodId} {below : List Frame} {meth : Method} {c : Code} {A : Nat → Prop} {D : va_G} {K : Nat → ClassId} {h0 : Nat} {a0 : Nat → Nat} {AR : Array Value} (C : (dc_C p s m AR meth c cTx_name 6 (Option.some Jvm.ClassFile.FieldType.long) yTx_name ∧ cf_E D K A s s.heap ∧ ∀ q, s.heap.size ≤ q → A q)) {n : Nat} (ih : IhTx_name p l e s m below meth c A D K h0 a0 AR n) (v1 : Int32) (o0 : cf_O) (r : Int64) (h : fTx_name_0 (gTx_name n) v1 o0 = some r) {H : Heap} {locs : List Loc} {ls : Array Slot} (hP : va_P D vwCl (wTx K h0 a0 o0) H) (hD : va_D A (wTx K h0 a0 o0)) (hS : va_S A s.heap H locs) (hl : lv_has ls 6 [(0, .ref h0), (1, .int v1)]) : W p l e ({ frames := 1, cells := 0, slots := 0, locals := 22 }) s m AR below meth c H locs 0 0 (MQ below (va_Ql (fun (x : Int64) (_ : Unit) => x = r) (fun (_ : Unit) t => cf_At D A (wTx K h0 a0 o0) t) A) AR s 0 0 A) (F0 m 0 ls []) := by
  obtain ⟨⟨hx, hb, hr, hts, hown, hlocks, hin, hml⟩, hE, hA⟩ := id C
  have hK := hE.k
  refine lv_aload_n hx hb dTx_name_0 rfl (lv_at hl 0 rfl) ?_
  refine lv_iload_n hx hb dTx_name_1 rfl (lv_at hl 1 rfl) ?_
  obtain ⟨q_1, hq_1, h⟩ := op_b h
  refine dc_calli (va_runV (As := [.int v1]) (rest := []) ⟨hx, hb, hml, hown, hts⟩ (mTx_length l D K _ v1 h0 a0 o0 _ hq_1) (cwV 1 hts (cf_GV wv_752 wv_753 wv_754 wv_158 wv_755) rfl rfl rfl (by decide +kernel) ⟨Nat.le_of_ble_eq_true rfl, Nat.le_of_ble_eq_true rfl⟩) (dc_preV hE hP hD hS hA rfl 0 rfl) rfl rfl hl.1 rfl (lv_room (Nat.le_of_ble_eq_true rfl)) dTx_name_2 ⟨Nat.le_of_ble_eq_true rfl, Nat.le_of_ble_eq_true rfl⟩) hP hD hS hA (fun r_2 H locs hw_3 hP hD hS => ?_)
  subst r_2
  refine lv_bipush (v := 8) hx hb dTx_name_5 (by decide) ?_
  refine lv_icmp_le (tgt := 12) hx hb dTx_name_7 (by decide) (fun c_4 => ?_) (fun c_4 => ?_)
  · have h := op_t c_4 h
    refine lv_lconst (v := 0) hx hb dTx_name_12 (by decide) ?_
    refine lv_lstore_n (lv' := [(2, .long 0), (0, .ref h0), (1, .int v1)]) hx hb dTx_name_13 rfl hl (by decide) rfl (fun ls hl => ?_)
    refine lv_iconst (v := 0) hx hb dTx_name_14 (by decide) ?_
    refine lv_istore (lv' := [(4, .int 0), (2, .long 0), (0, .ref h0), (1, .int v1)]) hx hb dTx_name_15 hl (by decide) rfl (fun ls hl => ?_)
    exact (ih) _ _ _ _ _ h hP hD hS (lv_sub hl [2, 3, 1, 0] rfl)
  · have h := op_f c_4 h
    refine lv_lconst (v := 0) hx hb dTx_name_10 (by decide) ?_
    obtain rfl := Option.some.inj h
    exact dc_lret hx hb hr hlocks rfl hP hD hS dTx_name_11
theorem iTx_name {p : Program} {l : Launch} {e : Env} {s : State} {m : MethodId} {below : List Frame} {meth : Method} {c : Code} {A : Nat → Prop} {D : va_G} {K : Nat → ClassId} {h0 : Nat} {a0 : Nat → Nat} {AR : Array Value} (C : (dc_C p s m AR meth c cTx_name 6 (Option.some Jvm.ClassFile.FieldType.long) yTx_name ∧ cf_E D K A s s.heap ∧ ∀ q, s.heap.size ≤ q → A q)) : ∀ n, IhTx_name p l e s m below meth c A D K h0 a0 AR n := by
  intro n
  induction n with
  | zero => exact (fun _ _ _ _ r h => by cases (show none = some r from h))
  | succ n ih => exact fun x0 x1 x2 x3 r h _ _ _ hP hD hS hl => bTx_name_17 C ih x0 x1 x2 x3 r h hP hD hS hl
set_option maxRecDepth 100000 in
theorem mTx_name (l : Launch) (D : va_G) (K : Nat → ClassId) (sz : Nat) (v1 : Int32) (h0 : Nat) (a0 : Nat → Nat) (o0 : cf_O) (r : Int64) (h : fTx_name v1 o0 = some r) : Met l yTx_name (Cond.code yTx_name cTx_name 6 (Option.some Jvm.ClassFile.FieldType.long) :: cfB) ({ frames := 1, cells := 0, slots := 0, locals := 22 }) (va_Pc [.ref h0, .int v1] (cf_Pre D K sz (wTx K h0 a0 o0))) (va_Ql (fun (x : Int64) (_ : Unit) => x = r) (fun (_ : Unit) t => cf_At D (va_A (wTx K h0 a0 o0) sz) (wTx K h0 a0 o0) t) (va_A (wTx K h0 a0 o0) sz)) 0 0 (va_A (wTx K h0 a0 o0) sz) := by
  refine cf_ofW (y := yTx_name) (As := [.ref h0, .int v1]) (WS := wTx K h0 a0 o0) (maxL := 6) (fun A => (va_Ql (fun (x : Int64) (_ : Unit) => x = r) (fun (_ : Unit) t => cf_At D A (wTx K h0 a0 o0) t) A)) (by decide) (Nat.le_of_ble_eq_true rfl) ?_
  intro p e s m below meth c A ls En hsz hA hP hD hE hS hl
  have C : (dc_C p s m (([.ref h0, .int v1] : List Value).toArray) meth c cTx_name 6 (Option.some Jvm.ClassFile.FieldType.long) yTx_name ∧ cf_E D K A s s.heap ∧ ∀ q, s.heap.size ≤ q → A q) := ⟨En, hE, hA⟩
  exact bTx_name_0 C (iTx_name C cfFU) v1 o0 r h hP hD hS hl
def IhTx_digits (p : Program) (l : Launch) (e : Env) (s : State) (m : MethodId) (below : List Frame) (meth : Method) (c : Code) (A : Nat → Prop) (D : va_G) (K : Nat → ClassId) (h0 : Nat) (a0 : Nat → Nat) (AR : Array Value) (n : Nat) : Prop := (∀ (v1 : Int32) (v3 : Int32) (v4 : Int32) (o0 : cf_O) (r : Int32), gTx_digits n 0 v1 v3 v4 o0 = some r → ∀ {H : Heap} {locs : List Loc} {ls : Array Slot}, (va_P D vwCl (wTx K h0 a0 o0) H) → (va_D A (wTx K h0 a0 o0)) → va_S A s.heap H locs → lv_has ls 6 [(0, .ref h0), (1, .int v1), (3, .int v3), (4, .int v4)] → W p l e ({ frames := 1, cells := 0, slots := 0, locals := 22 }) s m AR below meth c H locs 0 0 (MQ below (va_Qi (fun (x : Int32) (_ : Unit) => x = r) (fun (_ : Unit) t => cf_At D A (wTx K h0 a0 o0) t) A) AR s 0 0 A) (F0 m 16 ls []))
set_option maxHeartbeats 4000000 in
set_option maxRecDepth 100000 in
theorem bTx_digits_49 {p : Program} {l : Launch} {e : Env} {s : State} {m : MethodId} {below : List Frame} {meth : Method} {c : Code} {A : Nat → Prop} {D : va_G} {K : Nat → ClassId} {h0 : Nat} {a0 : Nat → Nat} {AR : Array Value} (C : (dc_C p s m AR meth c cTx_digits 6 (Option.some Jvm.ClassFile.FieldType.int) yTx_digits ∧ cf_E D K A s s.heap ∧ ∀ q, s.heap.size ≤ q → A q)) {n : Nat} (ih : IhTx_digits p l e s m below meth c A D K h0 a0 AR n) (o0 : cf_O) (r : Int32) (h : fTx_digits_49 (gTx_digits n) o0 = some r) {H : Heap} {locs : List Loc} {ls : Array Slot} (hP : va_P D vwCl (wTx K h0 a0 o0) H) (hD : va_D A (wTx K h0 a0 o0)) (hS : va_S A s.heap H locs) (hl : lv_has ls 6 []) : W p l e ({ frames := 1, cells := 0, slots := 0, locals := 22 }) s m AR below meth c H locs 0 0 (MQ below (va_Qi (fun (x : Int32) (_ : Unit) => x = r) (fun (_ : Unit) t => cf_At D A (wTx K h0 a0 o0) t) A) AR s 0 0 A) (F0 m 49 ls []) := by
  obtain ⟨⟨hx, hb, hr, hts, hown, hlocks, hin, hml⟩, hE, hA⟩ := id C
  have hK := hE.k
  refine lv_iconst (v := (-1)) hx hb dTx_digits_49 (by decide) ?_
  obtain rfl := Option.some.inj h
  exact dc_iret hx hb hr hlocks rfl hP hD hS dTx_digits_50
set_option maxHeartbeats 4000000 in
set_option maxRecDepth 100000 in
theorem bTx_digits_16 {p : Program} {l : Launch} {e : Env} {s : State} {m : MethodId} {below : List Frame} {meth : Method} {c : Code} {A : Nat → Prop} {D : va_G} {K : Nat → ClassId} {h0 : Nat} {a0 : Nat → Nat} {AR : Array Value} (C : (dc_C p s m AR meth c cTx_digits 6 (Option.some Jvm.ClassFile.FieldType.int) yTx_digits ∧ cf_E D K A s s.heap ∧ ∀ q, s.heap.size ≤ q → A q)) {n : Nat} (ih : IhTx_digits p l e s m below meth c A D K h0 a0 AR n) (v1 : Int32) (v3 : Int32) (v4 : Int32) (o0 : cf_O) (r : Int32) (h : fTx_digits_16 (gTx_digits n) v1 v3 v4 o0 = some r) {H : Heap} {locs : List Loc} {ls : Array Slot} (hP : va_P D vwCl (wTx K h0 a0 o0) H) (hD : va_D A (wTx K h0 a0 o0)) (hS : va_S A s.heap H locs) (hl : lv_has ls 6 [(0, .ref h0), (1, .int v1), (3, .int v3), (4, .int v4)]) : W p l e ({ frames := 1, cells := 0, slots := 0, locals := 22 }) s m AR below meth c H locs 0 0 (MQ below (va_Qi (fun (x : Int32) (_ : Unit) => x = r) (fun (_ : Unit) t => cf_At D A (wTx K h0 a0 o0) t) A) AR s 0 0 A) (F0 m 16 ls []) := by
  obtain ⟨⟨hx, hb, hr, hts, hown, hlocks, hin, hml⟩, hE, hA⟩ := id C
  have hK := hE.k
  refine lv_iload hx hb dTx_digits_16 (lv_at hl 3 rfl) ?_
  refine lv_aload_n hx hb dTx_digits_18 rfl (lv_at hl 0 rfl) ?_
  refine lv_iload_n hx hb dTx_digits_19 rfl (lv_at hl 1 rfl) ?_
  obtain ⟨q_1, hq_1, h⟩ := op_b h
  refine dc_calli (va_runV (As := [.int v1]) (rest := [.int v4]) ⟨hx, hb, hml, hown, hts⟩ (mTx_length l D K _ v1 h0 a0 o0 _ hq_1) (cwV 1 hts (cf_GV wv_752 wv_753 wv_754 wv_158 wv_755) rfl rfl rfl (by decide +kernel) ⟨Nat.le_of_ble_eq_true rfl, Nat.le_of_ble_eq_true rfl⟩) (dc_preV hE hP hD hS hA rfl 0 rfl) rfl rfl hl.1 rfl (lv_room (Nat.le_of_ble_eq_true rfl)) dTx_digits_20 ⟨Nat.le_of_ble_eq_true rfl, Nat.le_of_ble_eq_true rfl⟩) hP hD hS hA (fun r_2 H locs hw_3 hP hD hS => ?_)
  subst r_2
  refine lv_icmp_ge (tgt := 68) hx hb dTx_digits_23 (by decide) (fun c_4 => ?_) (fun c_4 => ?_)
  · have h := op_t c_4 h
    refine lv_iload_n hx hb dTx_digits_68 rfl (lv_at hl 2 rfl) ?_
    obtain rfl := Option.some.inj h
    exact dc_iret hx hb hr hlocks rfl hP hD hS dTx_digits_69
  · have h := op_f c_4 h
    refine lv_aload_n hx hb dTx_digits_26 rfl (lv_at hl 0 rfl) ?_
    refine lv_iload_n hx hb dTx_digits_27 rfl (lv_at hl 1 rfl) ?_
    refine lv_iload hx hb dTx_digits_28 (lv_at hl 3 rfl) ?_
    obtain ⟨q_5, hq_5, h⟩ := op_b h
    refine dc_calli (va_runV (As := [.int v1, .int v4]) (rest := []) ⟨hx, hb, hml, hown, hts⟩ (mTx_signOf l D K _ v1 v4 h0 a0 o0 _ hq_5) (cwV 2 hts (cf_GV wv_765 wv_766 wv_767 wv_158 wv_768) rfl rfl rfl (by decide +kernel) ⟨Nat.le_of_ble_eq_true rfl, Nat.le_of_ble_eq_true rfl⟩) (dc_preV hE hP hD hS hA rfl 0 rfl) rfl rfl hl.1 rfl (lv_room (Nat.le_of_ble_eq_true rfl)) dTx_digits_30 ⟨Nat.le_of_ble_eq_true rfl, Nat.le_of_ble_eq_true rfl⟩) hP hD hS hA (fun r_6 H locs hw_7 hP hD hS => ?_)
    subst r_6
    refine lv_istore (lv' := [(5, .int q_5), (0, .ref h0), (1, .int v1), (3, .int v3), (4, .int v4)]) hx hb dTx_digits_33 hl (by decide) rfl (fun ls hl => ?_)
    refine lv_iload hx hb dTx_digits_35 (lv_at hl 0 rfl) ?_
    refine lv_bipush (v := 48) hx hb dTx_digits_37 (by decide) ?_
    refine lv_icmp_lt (tgt := 49) hx hb dTx_digits_39 (by decide) (fun c_8 => ?_) (fun c_8 => ?_)
    · have h := op_t c_8 h
      exact bTx_digits_49 C ih _ _ h hP hD hS (lv_sub hl [] rfl)
    · have h := op_f c_8 h
      refine lv_iload hx hb dTx_digits_42 (lv_at hl 0 rfl) ?_
      refine lv_bipush (v := 57) hx hb dTx_digits_44 (by decide) ?_
      refine lv_icmp_le (tgt := 51) hx hb dTx_digits_46 (by decide) (fun c_9 => ?_) (fun c_9 => ?_)
      · have h := op_t c_9 h
        refine lv_bipush (v := 10) hx hb dTx_digits_51 (by decide) ?_
        refine lv_iload_n hx hb dTx_digits_53 rfl (lv_at hl 3 rfl) ?_
        refine lv_imul hx hb dTx_digits_54 ?_
        refine lv_topi (fun x_10 ex_10 => ?_)
        have h := op_ks ex_10 h
        refine lv_iload hx hb dTx_digits_55 (lv_at hl 0 rfl) ?_
        refine lv_iadd hx hb dTx_digits_57 ?_
        refine lv_topi (fun x_11 ex_11 => ?_)
        have h := op_ks ex_11 h
        refine lv_bipush (v := 48) hx hb dTx_digits_58 (by decide) ?_
        refine lv_isub hx hb dTx_digits_60 ?_
        refine lv_topi (fun x_12 ex_12 => ?_)
        have h := op_ks ex_12 h
        refine lv_istore_n (lv' := [(3, .int x_12), (5, .int q_5), (0, .ref h0), (1, .int v1), (4, .int v4)]) hx hb dTx_digits_61 rfl hl (by decide) rfl (fun ls hl => ?_)
        obtain ⟨x_13, ex_13⟩ : ∃ y : Int32, y = v4 + 1 := ⟨_, rfl⟩
        refine lv_iinc (v := x_13) (lv' := [(4, .int x_13), (3, .int x_12), (5, .int q_5), (0, .ref h0), (1, .int v1)]) hx hb dTx_digits_62 hl (k := 4) rfl (by rw [ex_13]; rfl) (by decide) rfl (fun ls hl => ?_)
        have h := op_ks ex_13 h
        refine lv_goto (tgt := 16) hx hb dTx_digits_65 (by decide) ?_
        exact (ih) _ _ _ _ _ h hP hD hS (lv_sub hl [3, 4, 1, 0] rfl)
      · have h := op_f c_9 h
        exact bTx_digits_49 C ih _ _ h hP hD hS (lv_sub hl [] rfl)
set_option maxHeartbeats 4000000 in
set_option maxRecDepth 100000 in
theorem bTx_digits_0 {p : Program} {l : Launch} {e : Env} {s : State} {m : MethodId} {below : List Frame} {meth : Method} {c : Code} {A : Nat → Prop} {D : va_G} {K : Nat → ClassId} {h0 : Nat} {a0 : Nat → Nat} {AR : Array Value} (C : (dc_C p s m AR meth c cTx_digits 6 (Option.some Jvm.ClassFile.FieldType.int) yTx_digits ∧ cf_E D K A s s.heap ∧ ∀ q, s.heap.size ≤ q → A q)) {n : Nat} (ih : IhTx_digits p l e s m below meth c A D K h0 a0 AR n) (v1 : Int32) (v2 : Int32) (o0 : cf_O) (r : Int32) (h : fTx_digits_0 (gTx_digits n) v1 v2 o0 = some r) {H : Heap} {locs : List Loc} {ls : Array Slot} (hP : va_P D vwCl (wTx K h0 a0 o0) H) (hD : va_D A (wTx K h0 a0 o0)) (hS : va_S A s.heap H locs) (hl : lv_has ls 6 [(0, .ref h0), (1, .int v1), (2, .int v2)]) : W p l e ({ frames := 1, cells := 0, slots := 0, locals := 22 }) s m AR below meth c H locs 0 0 (MQ below (va_Qi (fun (x : Int32) (_ : Unit) => x = r) (fun (_ : Unit) t => cf_At D A (wTx K h0 a0 o0) t) A) AR s 0 0 A) (F0 m 0 ls []) := by
  obtain ⟨⟨hx, hb, hr, hts, hown, hlocks, hin, hml⟩, hE, hA⟩ := id C
  have hK := hE.k
  refine lv_aload_n hx hb dTx_digits_0 rfl (lv_at hl 0 rfl) ?_
  refine lv_iload_n hx hb dTx_digits_1 rfl (lv_at hl 1 rfl) ?_
  obtain ⟨q_1, hq_1, h⟩ := op_b h
  refine dc_calli (va_runV (As := [.int v1]) (rest := []) ⟨hx, hb, hml, hown, hts⟩ (mTx_length l D K _ v1 h0 a0 o0 _ hq_1) (cwV 1 hts (cf_GV wv_752 wv_753 wv_754 wv_158 wv_755) rfl rfl rfl (by decide +kernel) ⟨Nat.le_of_ble_eq_true rfl, Nat.le_of_ble_eq_true rfl⟩) (dc_preV hE hP hD hS hA rfl 0 rfl) rfl rfl hl.1 rfl (lv_room (Nat.le_of_ble_eq_true rfl)) dTx_digits_2 ⟨Nat.le_of_ble_eq_true rfl, Nat.le_of_ble_eq_true rfl⟩) hP hD hS hA (fun r_2 H locs hw_3 hP hD hS => ?_)
  subst r_2
  refine lv_iload_n hx hb dTx_digits_5 rfl (lv_at hl 2 rfl) ?_
  refine lv_icmp_le (tgt := 11) hx hb dTx_digits_6 (by decide) (fun c_4 => ?_) (fun c_4 => ?_)
  · have h := op_t c_4 h
    refine lv_iconst (v := 0) hx hb dTx_digits_11 (by decide) ?_
    refine lv_istore_n (lv' := [(3, .int 0), (0, .ref h0), (1, .int v1), (2, .int v2)]) hx hb dTx_digits_12 rfl hl (by decide) rfl (fun ls hl => ?_)
    refine lv_iconst (v := 0) hx hb dTx_digits_13 (by decide) ?_
    refine lv_istore (lv' := [(4, .int 0), (3, .int 0), (0, .ref h0), (1, .int v1), (2, .int v2)]) hx hb dTx_digits_14 hl (by decide) rfl (fun ls hl => ?_)
    exact (ih) _ _ _ _ _ h hP hD hS (lv_sub hl [2, 3, 1, 0] rfl)
  · have h := op_f c_4 h
    refine lv_iconst (v := (-1)) hx hb dTx_digits_9 (by decide) ?_
    obtain rfl := Option.some.inj h
    exact dc_iret hx hb hr hlocks rfl hP hD hS dTx_digits_10
theorem iTx_digits {p : Program} {l : Launch} {e : Env} {s : State} {m : MethodId} {below : List Frame} {meth : Method} {c : Code} {A : Nat → Prop} {D : va_G} {K : Nat → ClassId} {h0 : Nat} {a0 : Nat → Nat} {AR : Array Value} (C : (dc_C p s m AR meth c cTx_digits 6 (Option.some Jvm.ClassFile.FieldType.int) yTx_digits ∧ cf_E D K A s s.heap ∧ ∀ q, s.heap.size ≤ q → A q)) : ∀ n, IhTx_digits p l e s m below meth c A D K h0 a0 AR n := by
  intro n
  induction n with
  | zero => exact (fun _ _ _ _ r h => by cases (show none = some r from h))
  | succ n ih => exact fun x0 x1 x2 x3 r h _ _ _ hP hD hS hl => bTx_digits_16 C ih x0 x1 x2 x3 r h hP hD hS hl
set_option maxRecDepth 100000 in
theorem mTx_digits (l : Launch) (D : va_G) (K : Nat → ClassId) (sz : Nat) (v1 : Int32) (v2 : Int32) (h0 : Nat) (a0 : Nat → Nat) (o0 : cf_O) (r : Int32) (h : fTx_digits v1 v2 o0 = some r) : Met l yTx_digits (Cond.code yTx_digits cTx_digits 6 (Option.some Jvm.ClassFile.FieldType.int) :: cfB) ({ frames := 1, cells := 0, slots := 0, locals := 22 }) (va_Pc [.ref h0, .int v1, .int v2] (cf_Pre D K sz (wTx K h0 a0 o0))) (va_Qi (fun (x : Int32) (_ : Unit) => x = r) (fun (_ : Unit) t => cf_At D (va_A (wTx K h0 a0 o0) sz) (wTx K h0 a0 o0) t) (va_A (wTx K h0 a0 o0) sz)) 0 0 (va_A (wTx K h0 a0 o0) sz) := by
  refine cf_ofW (y := yTx_digits) (As := [.ref h0, .int v1, .int v2]) (WS := wTx K h0 a0 o0) (maxL := 6) (fun A => (va_Qi (fun (x : Int32) (_ : Unit) => x = r) (fun (_ : Unit) t => cf_At D A (wTx K h0 a0 o0) t) A)) (by decide) (Nat.le_of_ble_eq_true rfl) ?_
  intro p e s m below meth c A ls En hsz hA hP hD hE hS hl
  have C : (dc_C p s m (([.ref h0, .int v1, .int v2] : List Value).toArray) meth c cTx_digits 6 (Option.some Jvm.ClassFile.FieldType.int) yTx_digits ∧ cf_E D K A s s.heap ∧ ∀ q, s.heap.size ≤ q → A q) := ⟨En, hE, hA⟩
  exact bTx_digits_0 C (iTx_digits C cfFU) v1 v2 o0 r h hP hD hS hl

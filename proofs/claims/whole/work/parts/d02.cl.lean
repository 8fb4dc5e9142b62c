def yJString_getBytes_ABIB : MethodName := ⟨"java/lang/String", "getBytes", "([BIB)V"⟩
abbrev cJString_getBytes_ABIB : ByteArray := prog_26_method_147_code
theorem dJString_getBytes_ABIB_0 : decode cJString_getBytes_ABIB 0 = .ok (.aload_n 0, 1) := by decide +kernel
theorem dJString_getBytes_ABIB_1 : decode cJString_getBytes_ABIB 1 = .ok (.invokevirtual 335, 3) := by decide +kernel
theorem dJString_getBytes_ABIB_4 : decode cJString_getBytes_ABIB 4 = .ok (.iload_n 3, 1) := by decide +kernel
theorem dJString_getBytes_ABIB_5 : decode cJString_getBytes_ABIB 5 = .ok (.if_icmp .ne 23, 3) := by decide +kernel
theorem dJString_getBytes_ABIB_8 : decode cJString_getBytes_ABIB 8 = .ok (.aload_n 0, 1) := by decide +kernel
theorem dJString_getBytes_ABIB_9 : decode cJString_getBytes_ABIB 9 = .ok (.getfield 9, 3) := by decide +kernel
theorem dJString_getBytes_ABIB_12 : decode cJString_getBytes_ABIB 12 = .ok (.iconst 0, 1) := by decide +kernel
theorem dJString_getBytes_ABIB_13 : decode cJString_getBytes_ABIB 13 = .ok (.aload_n 1, 1) := by decide +kernel
theorem dJString_getBytes_ABIB_14 : decode cJString_getBytes_ABIB 14 = .ok (.iload_n 2, 1) := by decide +kernel
theorem dJString_getBytes_ABIB_15 : decode cJString_getBytes_ABIB 15 = .ok (.iload_n 3, 1) := by decide +kernel
theorem dJString_getBytes_ABIB_16 : decode cJString_getBytes_ABIB 16 = .ok (.ishl, 1) := by decide +kernel
theorem dJString_getBytes_ABIB_17 : decode cJString_getBytes_ABIB 17 = .ok (.aload_n 0, 1) := by decide +kernel
theorem dJString_getBytes_ABIB_18 : decode cJString_getBytes_ABIB 18 = .ok (.getfield 9, 3) := by decide +kernel
theorem dJString_getBytes_ABIB_21 : decode cJString_getBytes_ABIB 21 = .ok (.arraylength, 1) := by decide +kernel
theorem dJString_getBytes_ABIB_22 : decode cJString_getBytes_ABIB 22 = .ok (.invokestatic 212, 3) := by decide +kernel
theorem dJString_getBytes_ABIB_25 : decode cJString_getBytes_ABIB 25 = .ok (.goto 18, 3) := by decide +kernel
theorem dJString_getBytes_ABIB_28 : decode cJString_getBytes_ABIB 28 = .ok (.aload_n 0, 1) := by decide +kernel
theorem dJString_getBytes_ABIB_29 : decode cJString_getBytes_ABIB 29 = .ok (.getfield 9, 3) := by decide +kernel
theorem dJString_getBytes_ABIB_32 : decode cJString_getBytes_ABIB 32 = .ok (.iconst 0, 1) := by decide +kernel
theorem dJString_getBytes_ABIB_33 : decode cJString_getBytes_ABIB 33 = .ok (.aload_n 1, 1) := by decide +kernel
theorem dJString_getBytes_ABIB_34 : decode cJString_getBytes_ABIB 34 = .ok (.iload_n 2, 1) := by decide +kernel
theorem dJString_getBytes_ABIB_35 : decode cJString_getBytes_ABIB 35 = .ok (.aload_n 0, 1) := by decide +kernel
theorem dJString_getBytes_ABIB_36 : decode cJString_getBytes_ABIB 36 = .ok (.getfield 9, 3) := by decide +kernel
theorem dJString_getBytes_ABIB_39 : decode cJString_getBytes_ABIB 39 = .ok (.arraylength, 1) := by decide +kernel
theorem dJString_getBytes_ABIB_40 : decode cJString_getBytes_ABIB 40 = .ok (.invokestatic 106, 3) := by decide +kernel
theorem dJString_getBytes_ABIB_43 : decode cJString_getBytes_ABIB 43 = .ok (.return_, 1) := by decide +kernel
theorem wv_1643 : Cond.methodLink "java/lang/String" 212 (⟨"java/lang/System", "arraycopy", "(Ljava/lang/Object;ILjava/lang/Object;II)V"⟩ : MethodName) ∈ cfB := cf_in 1643 (by decide +kernel) rfl
def yAS_putStringAt : MethodName := ⟨"java/lang/AbstractStringBuilder", "putStringAt", "(ILjava/lang/String;)V"⟩
abbrev cAS_putStringAt : ByteArray := prog_15_method_73_code
theorem dAS_putStringAt_0 : decode cAS_putStringAt 0 = .ok (.aload_n 0, 1) := by decide +kernel
theorem dAS_putStringAt_1 : decode cAS_putStringAt 1 = .ok (.aload_n 2, 1) := by decide +kernel
theorem dAS_putStringAt_2 : decode cAS_putStringAt 2 = .ok (.invokevirtual 397, 3) := by decide +kernel
theorem dAS_putStringAt_5 : decode cAS_putStringAt 5 = .ok (.aload_n 2, 1) := by decide +kernel
theorem dAS_putStringAt_6 : decode cAS_putStringAt 6 = .ok (.aload_n 0, 1) := by decide +kernel
theorem dAS_putStringAt_7 : decode cAS_putStringAt 7 = .ok (.getfield 15, 3) := by decide +kernel
theorem dAS_putStringAt_10 : decode cAS_putStringAt 10 = .ok (.iload_n 1, 1) := by decide +kernel
theorem dAS_putStringAt_11 : decode cAS_putStringAt 11 = .ok (.aload_n 0, 1) := by decide +kernel
theorem dAS_putStringAt_12 : decode cAS_putStringAt 12 = .ok (.getfield 22, 3) := by decide +kernel
theorem dAS_putStringAt_15 : decode cAS_putStringAt 15 = .ok (.invokevirtual 399, 3) := by decide +kernel
theorem dAS_putStringAt_18 : decode cAS_putStringAt 18 = .ok (.return_, 1) := by decide +kernel
theorem wv_1615 : Cond.methodLink "java/lang/AbstractStringBuilder" 397 (⟨"java/lang/AbstractStringBuilder", "inflateIfNeededFor", "(Ljava/lang/String;)V"⟩ : MethodName) ∈ cfB := cf_in 1615 (by decide +kernel) rfl
theorem wv_1618 : Cond.code (⟨"java/lang/AbstractStringBuilder", "inflateIfNeededFor", "(Ljava/lang/String;)V"⟩ : MethodName) prog_15_method_71_code 2 (Option.none : Option Jvm.ClassFile.FieldType) ∈ cfB := cf_in 1618 (by decide +kernel) rfl
theorem wv_2793 : Cond.sameMethod "java/lang/AbstractStringBuilder" "java/lang/AbstractStringBuilder" "inflateIfNeededFor" "(Ljava/lang/String;)V" ∈ cfB := cf_in 2793 (by decide +kernel) rfl
theorem wv_1617 : Cond.instanceMethod (⟨"java/lang/AbstractStringBuilder", "inflateIfNeededFor", "(Ljava/lang/String;)V"⟩ : MethodName) ∈ cfB := cf_in 1617 (by decide +kernel) rfl
theorem wv_1639 : Cond.methodLink "java/lang/AbstractStringBuilder" 399 (⟨"java/lang/String", "getBytes", "([BIB)V"⟩ : MethodName) ∈ cfB := cf_in 1639 (by decide +kernel) rfl
theorem wv_1642 : Cond.code (⟨"java/lang/String", "getBytes", "([BIB)V"⟩ : MethodName) prog_26_method_147_code 4 (Option.none : Option Jvm.ClassFile.FieldType) ∈ cfB := cf_in 1642 (by decide +kernel) rfl
theorem wv_1640 : Cond.instanceMethod (⟨"java/lang/String", "getBytes", "([BIB)V"⟩ : MethodName) ∈ cfB := cf_in 1640 (by decide +kernel) rfl
theorem wv_1641 : Cond.selects "java/lang/String" (⟨"java/lang/String", "getBytes", "([BIB)V"⟩ : MethodName) (⟨"java/lang/String", "getBytes", "([BIB)V"⟩ : MethodName) ∈ cfB := cf_in 1641 (by decide +kernel) rfl
def yAS_appendS : MethodName := ⟨"java/lang/AbstractStringBuilder", "append", "(Ljava/lang/String;)Ljava/lang/AbstractStringBuilder;"⟩
abbrev cAS_appendS : ByteArray := prog_15_method_22_code
theorem dAS_appendS_0 : decode cAS_appendS 0 = .ok (.aload_n 1, 1) := by decide +kernel
theorem dAS_appendS_1 : decode cAS_appendS 1 = .ok (.ifnonnull 8, 3) := by decide +kernel
theorem dAS_appendS_4 : decode cAS_appendS 4 = .ok (.aload_n 0, 1) := by decide +kernel
theorem dAS_appendS_5 : decode cAS_appendS 5 = .ok (.invokevirtual 204, 3) := by decide +kernel
theorem dAS_appendS_8 : decode cAS_appendS 8 = .ok (.areturn, 1) := by decide +kernel
theorem dAS_appendS_9 : decode cAS_appendS 9 = .ok (.aload_n 1, 1) := by decide +kernel
theorem dAS_appendS_10 : decode cAS_appendS 10 = .ok (.invokevirtual 32, 3) := by decide +kernel
theorem dAS_appendS_13 : decode cAS_appendS 13 = .ok (.istore_n 2, 1) := by decide +kernel
theorem dAS_appendS_14 : decode cAS_appendS 14 = .ok (.aload_n 0, 1) := by decide +kernel
theorem dAS_appendS_15 : decode cAS_appendS 15 = .ok (.aload_n 0, 1) := by decide +kernel
theorem dAS_appendS_16 : decode cAS_appendS 16 = .ok (.getfield 79, 3) := by decide +kernel
theorem dAS_appendS_19 : decode cAS_appendS 19 = .ok (.iload_n 2, 1) := by decide +kernel
theorem dAS_appendS_20 : decode cAS_appendS 20 = .ok (.iadd, 1) := by decide +kernel
theorem dAS_appendS_21 : decode cAS_appendS 21 = .ok (.invokevirtual 100, 3) := by decide +kernel
theorem dAS_appendS_24 : decode cAS_appendS 24 = .ok (.aload_n 0, 1) := by decide +kernel
theorem dAS_appendS_25 : decode cAS_appendS 25 = .ok (.aload_n 0, 1) := by decide +kernel
theorem dAS_appendS_26 : decode cAS_appendS 26 = .ok (.getfield 79, 3) := by decide +kernel
theorem dAS_appendS_29 : decode cAS_appendS 29 = .ok (.aload_n 1, 1) := by decide +kernel
theorem dAS_appendS_30 : decode cAS_appendS 30 = .ok (.invokevirtual 208, 3) := by decide +kernel
theorem dAS_appendS_33 : decode cAS_appendS 33 = .ok (.aload_n 0, 1) := by decide +kernel
theorem dAS_appendS_34 : decode cAS_appendS 34 = .ok (.dup, 1) := by decide +kernel
theorem dAS_appendS_35 : decode cAS_appendS 35 = .ok (.getfield 79, 3) := by decide +kernel
theorem dAS_appendS_38 : decode cAS_appendS 38 = .ok (.iload_n 2, 1) := by decide +kernel
theorem dAS_appendS_39 : decode cAS_appendS 39 = .ok (.iadd, 1) := by decide +kernel
theorem dAS_appendS_40 : decode cAS_appendS 40 = .ok (.putfield 79, 3) := by decide +kernel
theorem dAS_appendS_43 : decode cAS_appendS 43 = .ok (.aload_n 0, 1) := by decide +kernel
theorem dAS_appendS_44 : decode cAS_appendS 44 = .ok (.areturn, 1) := by decide +kernel
theorem wv_1611 : Cond.methodLink "java/lang/AbstractStringBuilder" 208 (⟨"java/lang/AbstractStringBuilder", "putStringAt", "(ILjava/lang/String;)V"⟩ : MethodName) ∈ cfB := cf_in 1611 (by decide +kernel) rfl
theorem wv_1614 : Cond.code (⟨"java/lang/AbstractStringBuilder", "putStringAt", "(ILjava/lang/String;)V"⟩ : MethodName) prog_15_method_73_code 3 (Option.none : Option Jvm.ClassFile.FieldType) ∈ cfB := cf_in 1614 (by decide +kernel) rfl
theorem wv_2792 : Cond.sameMethod "java/lang/AbstractStringBuilder" "java/lang/AbstractStringBuilder" "putStringAt" "(ILjava/lang/String;)V" ∈ cfB := cf_in 2792 (by decide +kernel) rfl
theorem wv_1613 : Cond.instanceMethod (⟨"java/lang/AbstractStringBuilder", "putStringAt", "(ILjava/lang/String;)V"⟩ : MethodName) ∈ cfB := cf_in 1613 (by decide +kernel) rfl
theorem wv_1610 : Cond.methodLink "java/lang/AbstractStringBuilder" 32 (⟨"java/lang/String", "length", "()I"⟩ : MethodName) ∈ cfB := cf_in 1610 (by decide +kernel) rfl
theorem wv_759 : Cond.code (⟨"java/lang/String", "length", "()I"⟩ : MethodName) prog_26_method_54_code 1 (Option.some Jvm.ClassFile.FieldType.int) ∈ cfB := cf_in 759 (by decide +kernel) rfl
theorem wv_757 : Cond.instanceMethod (⟨"java/lang/String", "length", "()I"⟩ : MethodName) ∈ cfB := cf_in 757 (by decide +kernel) rfl
theorem wv_758 : Cond.selects "java/lang/String" (⟨"java/lang/String", "length", "()I"⟩ : MethodName) (⟨"java/lang/String", "length", "()I"⟩ : MethodName) ∈ cfB := cf_in 758 (by decide +kernel) rfl
def ySB_appendS : MethodName := ⟨"java/lang/StringBuilder", "append", "(Ljava/lang/String;)Ljava/lang/StringBuilder;"⟩
abbrev cSB_appendS : ByteArray := prog_27_method_7_code
theorem dSB_appendS_0 : decode cSB_appendS 0 = .ok (.aload_n 0, 1) := by decide +kernel
theorem dSB_appendS_1 : decode cSB_appendS 1 = .ok (.aload_n 1, 1) := by decide +kernel
theorem dSB_appendS_2 : decode cSB_appendS 2 = .ok (.invokespecial 29, 3) := by decide +kernel
theorem dSB_appendS_5 : decode cSB_appendS 5 = .ok (.pop, 1) := by decide +kernel
theorem dSB_appendS_6 : decode cSB_appendS 6 = .ok (.aload_n 0, 1) := by decide +kernel
theorem dSB_appendS_7 : decode cSB_appendS 7 = .ok (.areturn, 1) := by decide +kernel
theorem wv_1558 : Cond.methodLink "java/lang/StringBuilder" 29 (⟨"java/lang/AbstractStringBuilder", "append", "(Ljava/lang/String;)Ljava/lang/AbstractStringBuilder;"⟩ : MethodName) ∈ cfB := cf_in 1558 (by decide +kernel) rfl
theorem wv_1560 : Cond.code (⟨"java/lang/AbstractStringBuilder", "append", "(Ljava/lang/String;)Ljava/lang/AbstractStringBuilder;"⟩ : MethodName) prog_15_method_22_code 3 (Option.some (Jvm.ClassFile.FieldType.object "java/lang/AbstractStringBuilder")) ∈ cfB := cf_in 1560 (by decide +kernel) rfl
theorem wv_2788 : Cond.sameMethod "java/lang/AbstractStringBuilder" "java/lang/AbstractStringBuilder" "append" "(Ljava/lang/String;)Ljava/lang/AbstractStringBuilder;" ∈ cfB := cf_in 2788 (by decide +kernel) rfl
theorem wv_1559 : Cond.instanceMethod (⟨"java/lang/AbstractStringBuilder", "append", "(Ljava/lang/String;)Ljava/lang/AbstractStringBuilder;"⟩ : MethodName) ∈ cfB := cf_in 1559 (by decide +kernel) rfl
def yJStringLatin1_canEncode_C : MethodName := ⟨"java/lang/StringLatin1", "canEncode", "(C)Z"⟩
abbrev cJStringLatin1_canEncode_C : ByteArray := prog_29_method_3_code
theorem dJStringLatin1_canEncode_C_0 : decode cJStringLatin1_canEncode_C 0 = .ok (.iload_n 0, 1) := by decide +kernel
theorem dJStringLatin1_canEncode_C_1 : decode cJStringLatin1_canEncode_C 1 = .ok (.sipush 255, 3) := by decide +kernel
theorem dJStringLatin1_canEncode_C_4 : decode cJStringLatin1_canEncode_C 4 = .ok (.if_icmp .gt 7, 3) := by decide +kernel
theorem dJStringLatin1_canEncode_C_7 : decode cJStringLatin1_canEncode_C 7 = .ok (.iconst 1, 1) := by decide +kernel
theorem dJStringLatin1_canEncode_C_8 : decode cJStringLatin1_canEncode_C 8 = .ok (.goto 4, 3) := by decide +kernel
theorem dJStringLatin1_canEncode_C_11 : decode cJStringLatin1_canEncode_C 11 = .ok (.iconst 0, 1) := by decide +kernel
theorem dJStringLatin1_canEncode_C_12 : decode cJStringLatin1_canEncode_C 12 = .ok (.ireturn, 1) := by decide +kernel
def yAS_appendC : MethodName := ⟨"java/lang/AbstractStringBuilder", "append", "(C)Ljava/lang/AbstractStringBuilder;"⟩
abbrev cAS_appendC : ByteArray := prog_15_method_31_code
theorem dAS_appendC_0 : decode cAS_appendC 0 = .ok (.aload_n 0, 1) := by decide +kernel
theorem dAS_appendC_1 : decode cAS_appendC 1 = .ok (.aload_n 0, 1) := by decide +kernel
theorem dAS_appendC_2 : decode cAS_appendC 2 = .ok (.getfield 79, 3) := by decide +kernel
theorem dAS_appendC_5 : decode cAS_appendC 5 = .ok (.iconst 1, 1) := by decide +kernel
theorem dAS_appendC_6 : decode cAS_appendC 6 = .ok (.iadd, 1) := by decide +kernel
theorem dAS_appendC_7 : decode cAS_appendC 7 = .ok (.invokevirtual 100, 3) := by decide +kernel
theorem dAS_appendC_10 : decode cAS_appendC 10 = .ok (.aload_n 0, 1) := by decide +kernel
theorem dAS_appendC_11 : decode cAS_appendC 11 = .ok (.invokevirtual 83, 3) := by decide +kernel
theorem dAS_appendC_14 : decode cAS_appendC 14 = .ok (.ifCond .eq 31, 3) := by decide +kernel
theorem dAS_appendC_17 : decode cAS_appendC 17 = .ok (.iload_n 1, 1) := by decide +kernel
theorem dAS_appendC_18 : decode cAS_appendC 18 = .ok (.invokestatic 191, 3) := by decide +kernel
theorem dAS_appendC_21 : decode cAS_appendC 21 = .ok (.ifCond .eq 24, 3) := by decide +kernel
theorem dAS_appendC_24 : decode cAS_appendC 24 = .ok (.aload_n 0, 1) := by decide +kernel
theorem dAS_appendC_25 : decode cAS_appendC 25 = .ok (.getfield 15, 3) := by decide +kernel
theorem dAS_appendC_28 : decode cAS_appendC 28 = .ok (.aload_n 0, 1) := by decide +kernel
theorem dAS_appendC_29 : decode cAS_appendC 29 = .ok (.dup, 1) := by decide +kernel
theorem dAS_appendC_30 : decode cAS_appendC 30 = .ok (.getfield 79, 3) := by decide +kernel
theorem dAS_appendC_33 : decode cAS_appendC 33 = .ok (.dup_x1, 1) := by decide +kernel
theorem dAS_appendC_34 : decode cAS_appendC 34 = .ok (.iconst 1, 1) := by decide +kernel
theorem dAS_appendC_35 : decode cAS_appendC 35 = .ok (.iadd, 1) := by decide +kernel
theorem dAS_appendC_36 : decode cAS_appendC 36 = .ok (.putfield 79, 3) := by decide +kernel
theorem dAS_appendC_39 : decode cAS_appendC 39 = .ok (.iload_n 1, 1) := by decide +kernel
theorem dAS_appendC_40 : decode cAS_appendC 40 = .ok (.i2b, 1) := by decide +kernel
theorem dAS_appendC_41 : decode cAS_appendC 41 = .ok (.bastore, 1) := by decide +kernel
theorem dAS_appendC_42 : decode cAS_appendC 42 = .ok (.goto 33, 3) := by decide +kernel
theorem dAS_appendC_45 : decode cAS_appendC 45 = .ok (.aload_n 0, 1) := by decide +kernel
theorem dAS_appendC_46 : decode cAS_appendC 46 = .ok (.invokevirtual 83, 3) := by decide +kernel
theorem dAS_appendC_49 : decode cAS_appendC 49 = .ok (.ifCond .eq 7, 3) := by decide +kernel
theorem dAS_appendC_52 : decode cAS_appendC 52 = .ok (.aload_n 0, 1) := by decide +kernel
theorem dAS_appendC_53 : decode cAS_appendC 53 = .ok (.invokevirtual 195, 3) := by decide +kernel
theorem dAS_appendC_56 : decode cAS_appendC 56 = .ok (.aload_n 0, 1) := by decide +kernel
theorem dAS_appendC_57 : decode cAS_appendC 57 = .ok (.getfield 15, 3) := by decide +kernel
theorem dAS_appendC_60 : decode cAS_appendC 60 = .ok (.aload_n 0, 1) := by decide +kernel
theorem dAS_appendC_61 : decode cAS_appendC 61 = .ok (.dup, 1) := by decide +kernel
theorem dAS_appendC_62 : decode cAS_appendC 62 = .ok (.getfield 79, 3) := by decide +kernel
theorem dAS_appendC_65 : decode cAS_appendC 65 = .ok (.dup_x1, 1) := by decide +kernel
theorem dAS_appendC_66 : decode cAS_appendC 66 = .ok (.iconst 1, 1) := by decide +kernel
theorem dAS_appendC_67 : decode cAS_appendC 67 = .ok (.iadd, 1) := by decide +kernel
theorem dAS_appendC_68 : decode cAS_appendC 68 = .ok (.putfield 79, 3) := by decide +kernel
theorem dAS_appendC_71 : decode cAS_appendC 71 = .ok (.iload_n 1, 1) := by decide +kernel
theorem dAS_appendC_72 : decode cAS_appendC 72 = .ok (.invokestatic 197, 3) := by decide +kernel
theorem dAS_appendC_75 : decode cAS_appendC 75 = .ok (.aload_n 0, 1) := by decide +kernel
theorem dAS_appendC_76 : decode cAS_appendC 76 = .ok (.areturn, 1) := by decide +kernel
theorem wv_179 : Cond.initialized "java/lang/StringLatin1" ∈ cfB := cf_in 179 (by decide +kernel) rfl
theorem wv_1805 : Cond.methodLink "java/lang/AbstractStringBuilder" 191 (⟨"java/lang/StringLatin1", "canEncode", "(C)Z"⟩ : MethodName) ∈ cfB := cf_in 1805 (by decide +kernel) rfl
theorem wv_1807 : Cond.code (⟨"java/lang/StringLatin1", "canEncode", "(C)Z"⟩ : MethodName) prog_29_method_3_code 1 (Option.some Jvm.ClassFile.FieldType.boolean) ∈ cfB := cf_in 1807 (by decide +kernel) rfl
theorem wv_1806 : Cond.static (⟨"java/lang/StringLatin1", "canEncode", "(C)Z"⟩ : MethodName) ∈ cfB := cf_in 1806 (by decide +kernel) rfl
def ySB_appendC : MethodName := ⟨"java/lang/StringBuilder", "append", "(C)Ljava/lang/StringBuilder;"⟩
abbrev cSB_appendC : ByteArray := prog_27_method_14_code
theorem dSB_appendC_0 : decode cSB_appendC 0 = .ok (.aload_n 0, 1) := by decide +kernel
theorem dSB_appendC_1 : decode cSB_appendC 1 = .ok (.iload_n 1, 1) := by decide +kernel
theorem dSB_appendC_2 : decode cSB_appendC 2 = .ok (.invokespecial 50, 3) := by decide +kernel
theorem dSB_appendC_5 : decode cSB_appendC 5 = .ok (.pop, 1) := by decide +kernel
theorem dSB_appendC_6 : decode cSB_appendC 6 = .ok (.aload_n 0, 1) := by decide +kernel
theorem dSB_appendC_7 : decode cSB_appendC 7 = .ok (.areturn, 1) := by decide +kernel
theorem wv_1802 : Cond.methodLink "java/lang/StringBuilder" 50 (⟨"java/lang/AbstractStringBuilder", "append", "(C)Ljava/lang/AbstractStringBuilder;"⟩ : MethodName) ∈ cfB := cf_in 1802 (by decide +kernel) rfl
theorem wv_1804 : Cond.code (⟨"java/lang/AbstractStringBuilder", "append", "(C)Ljava/lang/AbstractStringBuilder;"⟩ : MethodName) prog_15_method_31_code 2 (Option.some (Jvm.ClassFile.FieldType.object "java/lang/AbstractStringBuilder")) ∈ cfB := cf_in 1804 (by decide +kernel) rfl
theorem wv_2796 : Cond.sameMethod "java/lang/AbstractStringBuilder" "java/lang/AbstractStringBuilder" "append" "(C)Ljava/lang/AbstractStringBuilder;" ∈ cfB := cf_in 2796 (by decide +kernel) rfl
theorem wv_1803 : Cond.instanceMethod (⟨"java/lang/AbstractStringBuilder", "append", "(C)Ljava/lang/AbstractStringBuilder;"⟩ : MethodName) ∈ cfB := cf_in 1803 (by decide +kernel) rfl
def ySc_writeName : MethodName := ⟨"CellForge$Script", "writeName", "(J)V"⟩
abbrev cSc_writeName : ByteArray := prog_11_method_4_code
theorem dSc_writeName_0 : decode cSc_writeName 0 = .ok (.aload_n 0, 1) := by decide +kernel
theorem dSc_writeName_1 : decode cSc_writeName 1 = .ok (.getfield 12, 3) := by decide +kernel
theorem dSc_writeName_4 : decode cSc_writeName 4 = .ok (.bipush 32, 2) := by decide +kernel
theorem dSc_writeName_6 : decode cSc_writeName 6 = .ok (.invokevirtual 58, 3) := by decide +kernel
theorem dSc_writeName_9 : decode cSc_writeName 9 = .ok (.pop, 1) := by decide +kernel
theorem dSc_writeName_10 : decode cSc_writeName 10 = .ok (.bipush 56, 2) := by decide +kernel
theorem dSc_writeName_12 : decode cSc_writeName 12 = .ok (.istore_n 3, 1) := by decide +kernel
theorem dSc_writeName_13 : decode cSc_writeName 13 = .ok (.iload_n 3, 1) := by decide +kernel
theorem dSc_writeName_14 : decode cSc_writeName 14 = .ok (.ifCond .lt 35, 3) := by decide +kernel
theorem dSc_writeName_17 : decode cSc_writeName 17 = .ok (.lload_n 1, 1) := by decide +kernel
theorem dSc_writeName_18 : decode cSc_writeName 18 = .ok (.iload_n 3, 1) := by decide +kernel
theorem dSc_writeName_19 : decode cSc_writeName 19 = .ok (.lushr, 1) := by decide +kernel
theorem dSc_writeName_20 : decode cSc_writeName 20 = .ok (.ldc2_w 61, 3) := by decide +kernel
theorem dSc_writeName_23 : decode cSc_writeName 23 = .ok (.land, 1) := by decide +kernel
theorem dSc_writeName_24 : decode cSc_writeName 24 = .ok (.l2i, 1) := by decide +kernel
theorem dSc_writeName_25 : decode cSc_writeName 25 = .ok (.istore 4, 2) := by decide +kernel
theorem dSc_writeName_27 : decode cSc_writeName 27 = .ok (.iload 4, 2) := by decide +kernel
theorem dSc_writeName_29 : decode cSc_writeName 29 = .ok (.ifCond .eq 14, 3) := by decide +kernel
theorem dSc_writeName_32 : decode cSc_writeName 32 = .ok (.aload_n 0, 1) := by decide +kernel
theorem dSc_writeName_33 : decode cSc_writeName 33 = .ok (.getfield 12, 3) := by decide +kernel
theorem dSc_writeName_36 : decode cSc_writeName 36 = .ok (.iload 4, 2) := by decide +kernel
theorem dSc_writeName_38 : decode cSc_writeName 38 = .ok (.i2c, 1) := by decide +kernel
theorem dSc_writeName_39 : decode cSc_writeName 39 = .ok (.invokevirtual 58, 3) := by decide +kernel
theorem dSc_writeName_42 : decode cSc_writeName 42 = .ok (.pop, 1) := by decide +kernel
theorem dSc_writeName_43 : decode cSc_writeName 43 = .ok (.iinc 3 (-8), 3) := by decide +kernel
theorem dSc_writeName_46 : decode cSc_writeName 46 = .ok (.goto (-33), 3) := by decide +kernel
theorem dSc_writeName_49 : decode cSc_writeName 49 = .ok (.return_, 1) := by decide +kernel
theorem wv_1811 : Cond.constantLong "CellForge$Script" 61 255 ∈ cfB := cf_in 1811 (by decide +kernel) rfl
theorem wv_1798 : Cond.methodLink "CellForge$Script" 58 (⟨"java/lang/StringBuilder", "append", "(C)Ljava/lang/StringBuilder;"⟩ : MethodName) ∈ cfB := cf_in 1798 (by decide +kernel) rfl
theorem wv_1801 : Cond.code (⟨"java/lang/StringBuilder", "append", "(C)Ljava/lang/StringBuilder;"⟩ : MethodName) prog_27_method_14_code 2 (Option.some (Jvm.ClassFile.FieldType.object "java/lang/StringBuilder")) ∈ cfB := cf_in 1801 (by decide +kernel) rfl
theorem wv_1799 : Cond.instanceMethod (⟨"java/lang/StringBuilder", "append", "(C)Ljava/lang/StringBuilder;"⟩ : MethodName) ∈ cfB := cf_in 1799 (by decide +kernel) rfl
theorem wv_1800 : Cond.selects "java/lang/StringBuilder" (⟨"java/lang/StringBuilder", "append", "(C)Ljava/lang/StringBuilder;"⟩ : MethodName) (⟨"java/lang/StringBuilder", "append", "(C)Ljava/lang/StringBuilder;"⟩ : MethodName) ∈ cfB := cf_in 1800 (by decide +kernel) rfl
def ySc_writeHead : MethodName := ⟨"CellForge$Script", "writeHead", "(LCellForge$Netlist;)V"⟩
abbrev cSc_writeHead : ByteArray := prog_11_method_3_code
theorem dSc_writeHead_0 : decode cSc_writeHead 0 = .ok (.aload_n 0, 1) := by decide +kernel
theorem dSc_writeHead_1 : decode cSc_writeHead 1 = .ok (.getfield 12, 3) := by decide +kernel
theorem dSc_writeHead_4 : decode cSc_writeHead 4 = .ok (.iconst 0, 1) := by decide +kernel
theorem dSc_writeHead_5 : decode cSc_writeHead 5 = .ok (.invokevirtual 26, 3) := by decide +kernel
theorem dSc_writeHead_8 : decode cSc_writeHead 8 = .ok (.aload_n 0, 1) := by decide +kernel
theorem dSc_writeHead_9 : decode cSc_writeHead 9 = .ok (.getfield 12, 3) := by decide +kernel
theorem dSc_writeHead_12 : decode cSc_writeHead 12 = .ok (.ldc 30, 2) := by decide +kernel
theorem dSc_writeHead_14 : decode cSc_writeHead 14 = .ok (.invokevirtual 32, 3) := by decide +kernel
theorem dSc_writeHead_17 : decode cSc_writeHead 17 = .ok (.pop, 1) := by decide +kernel
theorem dSc_writeHead_18 : decode cSc_writeHead 18 = .ok (.iconst 0, 1) := by decide +kernel
theorem dSc_writeHead_19 : decode cSc_writeHead 19 = .ok (.istore_n 2, 1) := by decide +kernel
theorem dSc_writeHead_20 : decode cSc_writeHead 20 = .ok (.iload_n 2, 1) := by decide +kernel
theorem dSc_writeHead_21 : decode cSc_writeHead 21 = .ok (.aload_n 1, 1) := by decide +kernel
theorem dSc_writeHead_22 : decode cSc_writeHead 22 = .ok (.getfield 36, 3) := by decide +kernel
theorem dSc_writeHead_25 : decode cSc_writeHead 25 = .ok (.if_icmp .ge 19, 3) := by decide +kernel
theorem dSc_writeHead_28 : decode cSc_writeHead 28 = .ok (.aload_n 0, 1) := by decide +kernel
theorem dSc_writeHead_29 : decode cSc_writeHead 29 = .ok (.aload_n 1, 1) := by decide +kernel
theorem dSc_writeHead_30 : decode cSc_writeHead 30 = .ok (.getfield 42, 3) := by decide +kernel
theorem dSc_writeHead_33 : decode cSc_writeHead 33 = .ok (.iload_n 2, 1) := by decide +kernel
theorem dSc_writeHead_34 : decode cSc_writeHead 34 = .ok (.laload, 1) := by decide +kernel
theorem dSc_writeHead_35 : decode cSc_writeHead 35 = .ok (.invokevirtual 46, 3) := by decide +kernel
theorem dSc_writeHead_38 : decode cSc_writeHead 38 = .ok (.iinc 2 1, 3) := by decide +kernel
theorem dSc_writeHead_41 : decode cSc_writeHead 41 = .ok (.goto (-21), 3) := by decide +kernel
theorem dSc_writeHead_44 : decode cSc_writeHead 44 = .ok (.aload_n 0, 1) := by decide +kernel
theorem dSc_writeHead_45 : decode cSc_writeHead 45 = .ok (.getfield 12, 3) := by decide +kernel
theorem dSc_writeHead_48 : decode cSc_writeHead 48 = .ok (.ldc 50, 2) := by decide +kernel
theorem dSc_writeHead_50 : decode cSc_writeHead 50 = .ok (.invokevirtual 32, 3) := by decide +kernel
theorem dSc_writeHead_53 : decode cSc_writeHead 53 = .ok (.pop, 1) := by decide +kernel
theorem dSc_writeHead_54 : decode cSc_writeHead 54 = .ok (.iconst 0, 1) := by decide +kernel
theorem dSc_writeHead_55 : decode cSc_writeHead 55 = .ok (.istore_n 2, 1) := by decide +kernel
theorem dSc_writeHead_56 : decode cSc_writeHead 56 = .ok (.iload_n 2, 1) := by decide +kernel
theorem dSc_writeHead_57 : decode cSc_writeHead 57 = .ok (.aload_n 1, 1) := by decide +kernel
theorem dSc_writeHead_58 : decode cSc_writeHead 58 = .ok (.getfield 52, 3) := by decide +kernel
theorem dSc_writeHead_61 : decode cSc_writeHead 61 = .ok (.if_icmp .ge 19, 3) := by decide +kernel
theorem dSc_writeHead_64 : decode cSc_writeHead 64 = .ok (.aload_n 0, 1) := by decide +kernel
theorem dSc_writeHead_65 : decode cSc_writeHead 65 = .ok (.aload_n 1, 1) := by decide +kernel
theorem dSc_writeHead_66 : decode cSc_writeHead 66 = .ok (.getfield 55, 3) := by decide +kernel
theorem dSc_writeHead_69 : decode cSc_writeHead 69 = .ok (.iload_n 2, 1) := by decide +kernel
theorem dSc_writeHead_70 : decode cSc_writeHead 70 = .ok (.laload, 1) := by decide +kernel
theorem dSc_writeHead_71 : decode cSc_writeHead 71 = .ok (.invokevirtual 46, 3) := by decide +kernel
theorem dSc_writeHead_74 : decode cSc_writeHead 74 = .ok (.iinc 2 1, 3) := by decide +kernel
theorem dSc_writeHead_77 : decode cSc_writeHead 77 = .ok (.goto (-21), 3) := by decide +kernel
theorem dSc_writeHead_80 : decode cSc_writeHead 80 = .ok (.aload_n 0, 1) := by decide +kernel
theorem dSc_writeHead_81 : decode cSc_writeHead 81 = .ok (.getfield 12, 3) := by decide +kernel
theorem dSc_writeHead_84 : decode cSc_writeHead 84 = .ok (.bipush 10, 2) := by decide +kernel
theorem dSc_writeHead_86 : decode cSc_writeHead 86 = .ok (.invokevirtual 58, 3) := by decide +kernel
theorem dSc_writeHead_89 : decode cSc_writeHead 89 = .ok (.pop, 1) := by decide +kernel
theorem dSc_writeHead_90 : decode cSc_writeHead 90 = .ok (.return_, 1) := by decide +kernel
theorem wv_486 : Cond.fieldLink "CellForge$Script" 52 "CellForge$Netlist" "outputs" "I" ∈ cfB := cf_in 486 (by decide +kernel) rfl
theorem wv_492 : Cond.fieldLink "CellForge$Script" 55 "CellForge$Netlist" "outputNames" "[J" ∈ cfB := cf_in 492 (by decide +kernel) rfl
theorem wv_1794 : Cond.methodLink "CellForge$Script" 46 (⟨"CellForge$Script", "writeName", "(J)V"⟩ : MethodName) ∈ cfB := cf_in 1794 (by decide +kernel) rfl
theorem wv_1797 : Cond.code (⟨"CellForge$Script", "writeName", "(J)V"⟩ : MethodName) prog_11_method_4_code 5 (Option.none : Option Jvm.ClassFile.FieldType) ∈ cfB := cf_in 1797 (by decide +kernel) rfl
theorem wv_1795 : Cond.instanceMethod (⟨"CellForge$Script", "writeName", "(J)V"⟩ : MethodName) ∈ cfB := cf_in 1795 (by decide +kernel) rfl
theorem wv_1796 : Cond.selects "CellForge$Script" (⟨"CellForge$Script", "writeName", "(J)V"⟩ : MethodName) (⟨"CellForge$Script", "writeName", "(J)V"⟩ : MethodName) ∈ cfB := cf_in 1796 (by decide +kernel) rfl
theorem wv_484 : Cond.fieldLink "CellForge$Script" 36 "CellForge$Netlist" "inputs" "I" ∈ cfB := cf_in 484 (by decide +kernel) rfl
theorem wv_1793 : Cond.methodLink "CellForge$Script" 32 (⟨"java/lang/StringBuilder", "append", "(Ljava/lang/String;)Ljava/lang/StringBuilder;"⟩ : MethodName) ∈ cfB := cf_in 1793 (by decide +kernel) rfl
theorem wv_1557 : Cond.code (⟨"java/lang/StringBuilder", "append", "(Ljava/lang/String;)Ljava/lang/StringBuilder;"⟩ : MethodName) prog_27_method_7_code 2 (Option.some (Jvm.ClassFile.FieldType.object "java/lang/StringBuilder")) ∈ cfB := cf_in 1557 (by decide +kernel) rfl
theorem wv_1555 : Cond.instanceMethod (⟨"java/lang/StringBuilder", "append", "(Ljava/lang/String;)Ljava/lang/StringBuilder;"⟩ : MethodName) ∈ cfB := cf_in 1555 (by decide +kernel) rfl
theorem wv_1556 : Cond.selects "java/lang/StringBuilder" (⟨"java/lang/StringBuilder", "append", "(Ljava/lang/String;)Ljava/lang/StringBuilder;"⟩ : MethodName) (⟨"java/lang/StringBuilder", "append", "(Ljava/lang/String;)Ljava/lang/StringBuilder;"⟩ : MethodName) ∈ cfB := cf_in 1556 (by decide +kernel) rfl
theorem wv_490 : Cond.fieldLink "CellForge$Script" 42 "CellForge$Netlist" "inputNames" "[J" ∈ cfB := cf_in 490 (by decide +kernel) rfl
theorem wv_1539 : Cond.methodLink "CellForge$Script" 26 (⟨"java/lang/StringBuilder", "setLength", "(I)V"⟩ : MethodName) ∈ cfB := cf_in 1539 (by decide +kernel) rfl
theorem wv_1542 : Cond.code (⟨"java/lang/StringBuilder", "setLength", "(I)V"⟩ : MethodName) prog_27_method_89_code 2 (Option.none : Option Jvm.ClassFile.FieldType) ∈ cfB := cf_in 1542 (by decide +kernel) rfl
theorem wv_1540 : Cond.instanceMethod (⟨"java/lang/StringBuilder", "setLength", "(I)V"⟩ : MethodName) ∈ cfB := cf_in 1540 (by decide +kernel) rfl
theorem wv_1541 : Cond.selects "java/lang/StringBuilder" (⟨"java/lang/StringBuilder", "setLength", "(I)V"⟩ : MethodName) (⟨"java/lang/StringBuilder", "setLength", "(I)V"⟩ : MethodName) ∈ cfB := cf_in 1541 (by decide +kernel) rfl
def yJInteger_stringSize_I : MethodName := ⟨"java/lang/Integer", "stringSize", "(I)I"⟩
abbrev cJInteger_stringSize_I : ByteArray := prog_22_method_13_code
theorem dJInteger_stringSize_I_0 : decode cJInteger_stringSize_I 0 = .ok (.iconst 1, 1) := by decide +kernel
theorem dJInteger_stringSize_I_1 : decode cJInteger_stringSize_I 1 = .ok (.istore_n 1, 1) := by decide +kernel
theorem dJInteger_stringSize_I_2 : decode cJInteger_stringSize_I 2 = .ok (.iload_n 0, 1) := by decide +kernel
theorem dJInteger_stringSize_I_3 : decode cJInteger_stringSize_I 3 = .ok (.ifCond .lt 8, 3) := by decide +kernel
theorem dJInteger_stringSize_I_6 : decode cJInteger_stringSize_I 6 = .ok (.iconst 0, 1) := by decide +kernel
theorem dJInteger_stringSize_I_7 : decode cJInteger_stringSize_I 7 = .ok (.istore_n 1, 1) := by decide +kernel
theorem dJInteger_stringSize_I_8 : decode cJInteger_stringSize_I 8 = .ok (.iload_n 0, 1) := by decide +kernel
theorem dJInteger_stringSize_I_9 : decode cJInteger_stringSize_I 9 = .ok (.ineg, 1) := by decide +kernel
theorem dJInteger_stringSize_I_10 : decode cJInteger_stringSize_I 10 = .ok (.istore_n 0, 1) := by decide +kernel
theorem dJInteger_stringSize_I_11 : decode cJInteger_stringSize_I 11 = .ok (.bipush (-10), 2) := by decide +kernel
theorem dJInteger_stringSize_I_13 : decode cJInteger_stringSize_I 13 = .ok (.istore_n 2, 1) := by decide +kernel
theorem dJInteger_stringSize_I_14 : decode cJInteger_stringSize_I 14 = .ok (.iconst 1, 1) := by decide +kernel
theorem dJInteger_stringSize_I_15 : decode cJInteger_stringSize_I 15 = .ok (.istore_n 3, 1) := by decide +kernel
theorem dJInteger_stringSize_I_16 : decode cJInteger_stringSize_I 16 = .ok (.iload_n 3, 1) := by decide +kernel
theorem dJInteger_stringSize_I_17 : decode cJInteger_stringSize_I 17 = .ok (.bipush 10, 2) := by decide +kernel
theorem dJInteger_stringSize_I_19 : decode cJInteger_stringSize_I 19 = .ok (.if_icmp .ge 23, 3) := by decide +kernel
theorem dJInteger_stringSize_I_22 : decode cJInteger_stringSize_I 22 = .ok (.iload_n 0, 1) := by decide +kernel
theorem dJInteger_stringSize_I_23 : decode cJInteger_stringSize_I 23 = .ok (.iload_n 2, 1) := by decide +kernel
theorem dJInteger_stringSize_I_24 : decode cJInteger_stringSize_I 24 = .ok (.if_icmp .le 7, 3) := by decide +kernel
theorem dJInteger_stringSize_I_27 : decode cJInteger_stringSize_I 27 = .ok (.iload_n 3, 1) := by decide +kernel
theorem dJInteger_stringSize_I_28 : decode cJInteger_stringSize_I 28 = .ok (.iload_n 1, 1) := by decide +kernel
theorem dJInteger_stringSize_I_29 : decode cJInteger_stringSize_I 29 = .ok (.iadd, 1) := by decide +kernel
theorem dJInteger_stringSize_I_30 : decode cJInteger_stringSize_I 30 = .ok (.ireturn, 1) := by decide +kernel
theorem dJInteger_stringSize_I_31 : decode cJInteger_stringSize_I 31 = .ok (.bipush 10, 2) := by decide +kernel
theorem dJInteger_stringSize_I_33 : decode cJInteger_stringSize_I 33 = .ok (.iload_n 2, 1) := by decide +kernel
theorem dJInteger_stringSize_I_34 : decode cJInteger_stringSize_I 34 = .ok (.imul, 1) := by decide +kernel
theorem dJInteger_stringSize_I_35 : decode cJInteger_stringSize_I 35 = .ok (.istore_n 2, 1) := by decide +kernel
theorem dJInteger_stringSize_I_36 : decode cJInteger_stringSize_I 36 = .ok (.iinc 3 1, 3) := by decide +kernel
theorem dJInteger_stringSize_I_39 : decode cJInteger_stringSize_I 39 = .ok (.goto (-23), 3) := by decide +kernel
theorem dJInteger_stringSize_I_42 : decode cJInteger_stringSize_I 42 = .ok (.bipush 10, 2) := by decide +kernel
theorem dJInteger_stringSize_I_44 : decode cJInteger_stringSize_I 44 = .ok (.iload_n 1, 1) := by decide +kernel
theorem dJInteger_stringSize_I_45 : decode cJInteger_stringSize_I 45 = .ok (.iadd, 1) := by decide +kernel
theorem dJInteger_stringSize_I_46 : decode cJInteger_stringSize_I 46 = .ok (.ireturn, 1) := by decide +kernel
def yJInteger_getChars_IIAB : MethodName := ⟨"java/lang/Integer", "getChars", "(II[B)I"⟩
abbrev cJInteger_getChars_IIAB : ByteArray := prog_22_method_12_code
theorem dJInteger_getChars_IIAB_0 : decode cJInteger_getChars_IIAB 0 = .ok (.iload_n 1, 1) := by decide +kernel
theorem dJInteger_getChars_IIAB_1 : decode cJInteger_getChars_IIAB 1 = .ok (.istore 5, 2) := by decide +kernel
theorem dJInteger_getChars_IIAB_3 : decode cJInteger_getChars_IIAB 3 = .ok (.iload_n 0, 1) := by decide +kernel
theorem dJInteger_getChars_IIAB_4 : decode cJInteger_getChars_IIAB 4 = .ok (.ifCond .ge 7, 3) := by decide +kernel
theorem dJInteger_getChars_IIAB_7 : decode cJInteger_getChars_IIAB 7 = .ok (.iconst 1, 1) := by decide +kernel
theorem dJInteger_getChars_IIAB_8 : decode cJInteger_getChars_IIAB 8 = .ok (.goto 4, 3) := by decide +kernel
theorem dJInteger_getChars_IIAB_11 : decode cJInteger_getChars_IIAB 11 = .ok (.iconst 0, 1) := by decide +kernel
theorem dJInteger_getChars_IIAB_12 : decode cJInteger_getChars_IIAB 12 = .ok (.istore 6, 2) := by decide +kernel
theorem dJInteger_getChars_IIAB_14 : decode cJInteger_getChars_IIAB 14 = .ok (.iload 6, 2) := by decide +kernel
theorem dJInteger_getChars_IIAB_16 : decode cJInteger_getChars_IIAB 16 = .ok (.ifCond .ne 6, 3) := by decide +kernel
theorem dJInteger_getChars_IIAB_19 : decode cJInteger_getChars_IIAB 19 = .ok (.iload_n 0, 1) := by decide +kernel
theorem dJInteger_getChars_IIAB_20 : decode cJInteger_getChars_IIAB 20 = .ok (.ineg, 1) := by decide +kernel
theorem dJInteger_getChars_IIAB_21 : decode cJInteger_getChars_IIAB 21 = .ok (.istore_n 0, 1) := by decide +kernel
theorem dJInteger_getChars_IIAB_22 : decode cJInteger_getChars_IIAB 22 = .ok (.iload_n 0, 1) := by decide +kernel
theorem dJInteger_getChars_IIAB_23 : decode cJInteger_getChars_IIAB 23 = .ok (.bipush (-100), 2) := by decide +kernel
theorem dJInteger_getChars_IIAB_25 : decode cJInteger_getChars_IIAB 25 = .ok (.if_icmp .gt 47, 3) := by decide +kernel
theorem dJInteger_getChars_IIAB_28 : decode cJInteger_getChars_IIAB 28 = .ok (.iload_n 0, 1) := by decide +kernel
theorem dJInteger_getChars_IIAB_29 : decode cJInteger_getChars_IIAB 29 = .ok (.bipush 100, 2) := by decide +kernel
theorem dJInteger_getChars_IIAB_31 : decode cJInteger_getChars_IIAB 31 = .ok (.idiv, 1) := by decide +kernel
theorem dJInteger_getChars_IIAB_32 : decode cJInteger_getChars_IIAB 32 = .ok (.istore_n 3, 1) := by decide +kernel
theorem dJInteger_getChars_IIAB_33 : decode cJInteger_getChars_IIAB 33 = .ok (.iload_n 3, 1) := by decide +kernel
theorem dJInteger_getChars_IIAB_34 : decode cJInteger_getChars_IIAB 34 = .ok (.bipush 100, 2) := by decide +kernel
theorem dJInteger_getChars_IIAB_36 : decode cJInteger_getChars_IIAB 36 = .ok (.imul, 1) := by decide +kernel
theorem dJInteger_getChars_IIAB_37 : decode cJInteger_getChars_IIAB 37 = .ok (.iload_n 0, 1) := by decide +kernel
theorem dJInteger_getChars_IIAB_38 : decode cJInteger_getChars_IIAB 38 = .ok (.isub, 1) := by decide +kernel
theorem dJInteger_getChars_IIAB_39 : decode cJInteger_getChars_IIAB 39 = .ok (.istore 4, 2) := by decide +kernel
theorem dJInteger_getChars_IIAB_41 : decode cJInteger_getChars_IIAB 41 = .ok (.iload_n 3, 1) := by decide +kernel
theorem dJInteger_getChars_IIAB_42 : decode cJInteger_getChars_IIAB 42 = .ok (.istore_n 0, 1) := by decide +kernel
theorem dJInteger_getChars_IIAB_43 : decode cJInteger_getChars_IIAB 43 = .ok (.aload_n 2, 1) := by decide +kernel
theorem dJInteger_getChars_IIAB_44 : decode cJInteger_getChars_IIAB 44 = .ok (.iinc 5 (-1), 3) := by decide +kernel
theorem dJInteger_getChars_IIAB_47 : decode cJInteger_getChars_IIAB 47 = .ok (.iload 5, 2) := by decide +kernel
theorem dJInteger_getChars_IIAB_49 : decode cJInteger_getChars_IIAB 49 = .ok (.getstatic 83, 3) := by decide +kernel
theorem dJInteger_getChars_IIAB_52 : decode cJInteger_getChars_IIAB 52 = .ok (.iload 4, 2) := by decide +kernel
theorem dJInteger_getChars_IIAB_54 : decode cJInteger_getChars_IIAB 54 = .ok (.baload, 1) := by decide +kernel
theorem dJInteger_getChars_IIAB_55 : decode cJInteger_getChars_IIAB 55 = .ok (.bastore, 1) := by decide +kernel
theorem dJInteger_getChars_IIAB_56 : decode cJInteger_getChars_IIAB 56 = .ok (.aload_n 2, 1) := by decide +kernel
theorem dJInteger_getChars_IIAB_57 : decode cJInteger_getChars_IIAB 57 = .ok (.iinc 5 (-1), 3) := by decide +kernel
theorem dJInteger_getChars_IIAB_60 : decode cJInteger_getChars_IIAB 60 = .ok (.iload 5, 2) := by decide +kernel
theorem dJInteger_getChars_IIAB_62 : decode cJInteger_getChars_IIAB 62 = .ok (.getstatic 87, 3) := by decide +kernel
theorem dJInteger_getChars_IIAB_65 : decode cJInteger_getChars_IIAB 65 = .ok (.iload 4, 2) := by decide +kernel
theorem dJInteger_getChars_IIAB_67 : decode cJInteger_getChars_IIAB 67 = .ok (.baload, 1) := by decide +kernel
theorem dJInteger_getChars_IIAB_68 : decode cJInteger_getChars_IIAB 68 = .ok (.bastore, 1) := by decide +kernel
theorem dJInteger_getChars_IIAB_69 : decode cJInteger_getChars_IIAB 69 = .ok (.goto (-47), 3) := by decide +kernel
theorem dJInteger_getChars_IIAB_72 : decode cJInteger_getChars_IIAB 72 = .ok (.aload_n 2, 1) := by decide +kernel
theorem dJInteger_getChars_IIAB_73 : decode cJInteger_getChars_IIAB 73 = .ok (.iinc 5 (-1), 3) := by decide +kernel
theorem dJInteger_getChars_IIAB_76 : decode cJInteger_getChars_IIAB 76 = .ok (.iload 5, 2) := by decide +kernel
theorem dJInteger_getChars_IIAB_78 : decode cJInteger_getChars_IIAB 78 = .ok (.getstatic 83, 3) := by decide +kernel
theorem dJInteger_getChars_IIAB_81 : decode cJInteger_getChars_IIAB 81 = .ok (.iload_n 0, 1) := by decide +kernel
theorem dJInteger_getChars_IIAB_82 : decode cJInteger_getChars_IIAB 82 = .ok (.ineg, 1) := by decide +kernel
theorem dJInteger_getChars_IIAB_83 : decode cJInteger_getChars_IIAB 83 = .ok (.baload, 1) := by decide +kernel
theorem dJInteger_getChars_IIAB_84 : decode cJInteger_getChars_IIAB 84 = .ok (.bastore, 1) := by decide +kernel
theorem dJInteger_getChars_IIAB_85 : decode cJInteger_getChars_IIAB 85 = .ok (.iload_n 0, 1) := by decide +kernel
theorem dJInteger_getChars_IIAB_86 : decode cJInteger_getChars_IIAB 86 = .ok (.bipush (-9), 2) := by decide +kernel
theorem dJInteger_getChars_IIAB_88 : decode cJInteger_getChars_IIAB 88 = .ok (.if_icmp .ge 16, 3) := by decide +kernel
theorem dJInteger_getChars_IIAB_91 : decode cJInteger_getChars_IIAB 91 = .ok (.aload_n 2, 1) := by decide +kernel
theorem dJInteger_getChars_IIAB_92 : decode cJInteger_getChars_IIAB 92 = .ok (.iinc 5 (-1), 3) := by decide +kernel
theorem dJInteger_getChars_IIAB_95 : decode cJInteger_getChars_IIAB 95 = .ok (.iload 5, 2) := by decide +kernel
theorem dJInteger_getChars_IIAB_97 : decode cJInteger_getChars_IIAB 97 = .ok (.getstatic 87, 3) := by decide +kernel
theorem dJInteger_getChars_IIAB_100 : decode cJInteger_getChars_IIAB 100 = .ok (.iload_n 0, 1) := by decide +kernel
theorem dJInteger_getChars_IIAB_101 : decode cJInteger_getChars_IIAB 101 = .ok (.ineg, 1) := by decide +kernel
theorem dJInteger_getChars_IIAB_102 : decode cJInteger_getChars_IIAB 102 = .ok (.baload, 1) := by decide +kernel
theorem dJInteger_getChars_IIAB_103 : decode cJInteger_getChars_IIAB 103 = .ok (.bastore, 1) := by decide +kernel
theorem dJInteger_getChars_IIAB_104 : decode cJInteger_getChars_IIAB 104 = .ok (.iload 6, 2) := by decide +kernel
theorem dJInteger_getChars_IIAB_106 : decode cJInteger_getChars_IIAB 106 = .ok (.ifCond .eq 12, 3) := by decide +kernel
theorem dJInteger_getChars_IIAB_109 : decode cJInteger_getChars_IIAB 109 = .ok (.aload_n 2, 1) := by decide +kernel
theorem dJInteger_getChars_IIAB_110 : decode cJInteger_getChars_IIAB 110 = .ok (.iinc 5 (-1), 3) := by decide +kernel
theorem dJInteger_getChars_IIAB_113 : decode cJInteger_getChars_IIAB 113 = .ok (.iload 5, 2) := by decide +kernel
theorem dJInteger_getChars_IIAB_115 : decode cJInteger_getChars_IIAB 115 = .ok (.bipush 45, 2) := by decide +kernel
theorem dJInteger_getChars_IIAB_117 : decode cJInteger_getChars_IIAB 117 = .ok (.bastore, 1) := by decide +kernel
theorem dJInteger_getChars_IIAB_118 : decode cJInteger_getChars_IIAB 118 = .ok (.iload 5, 2) := by decide +kernel
theorem dJInteger_getChars_IIAB_120 : decode cJInteger_getChars_IIAB 120 = .ok (.ireturn, 1) := by decide +kernel
theorem wv_1658 : Cond.fieldLink "java/lang/Integer" 83 "java/lang/Integer" "DigitOnes" "[B" ∈ cfB := cf_in 1658 (by decide +kernel) rfl
theorem wv_1660 : Cond.fieldLink "java/lang/Integer" 87 "java/lang/Integer" "DigitTens" "[B" ∈ cfB := cf_in 1660 (by decide +kernel) rfl
set_option maxRecDepth 100000 in
theorem nJString_getBytes_ABIB_S6_SB0_0 (v2 : Int32) (v3 : Int32) (o0 : cf_O) (r : cf_O) (h : fJString_getBytes_ABIB_S6_SB0_0 v2 v3 o0 = some r) : phSB o0 ≤ phSB r := by
  have hm : phSB o0 ≤ phSB o0 := Nat.le_refl _
  obtain ⟨q_1, hq_1, h⟩ := op_b h
  rcases (Classical.em (q_1 = v3)).symm with c_4 | c_4
  · have h := op_f c_4 h
    cases h
  · have h := op_t c_4 h
    obtain ⟨x_5, ex_5, h⟩ := op_kx h
    obtain ⟨hi_6, h⟩ := op_n h
    obtain ⟨o_7, eo_7, h⟩ := op_kx h
    have hm : phSB o0 ≤ phSB o_7 := by rw [eo_7]; exact hm
    obtain rfl := Option.some.inj h
    exact hm
theorem nJString_getBytes_ABIB_S6_SB0 (v2 : Int32) (v3 : Int32) (o0 : cf_O) (r : cf_O) (h : fJString_getBytes_ABIB_S6_SB0 v2 v3 o0 = some r) : phSB o0 ≤ phSB r := nJString_getBytes_ABIB_S6_SB0_0  v2 v3 o0 r h
set_option maxHeartbeats 4000000 in
set_option maxRecDepth 100000 in
theorem bJString_getBytes_ABIB_S6_SB0_0 {p : Program} {l : Launch} {e : Env} {s : State} {m : MethodId} {below : List Frame} {meth : Method} {c : Code} {A : Nat → Prop} {D : va_G} {K : Nat → ClassId} {h0 : Nat} {a0 : Nat → Nat} {AR : Array Value} (C : (dc_C p s m AR meth c cJString_getBytes_ABIB 4 (Option.none : Option Jvm.ClassFile.FieldType) yJString_getBytes_ABIB ∧ cf_E D K A s s.heap ∧ ∀ q, s.heap.size ≤ q → A q)) (v2 : Int32) (v3 : Int32) (o0 : cf_O) (r : cf_O) (h : fJString_getBytes_ABIB_S6_SB0_0 v2 v3 o0 = some r) {H : Heap} {locs : List Loc} {ls : Array Slot} (hP : va_P D vwCl (wSB K h0 a0 o0) H) (hD : va_D A (wSB K h0 a0 o0)) (hS : va_S A s.heap H locs) (hl : lv_has ls 4 [(0, .ref (K 106)), (1, .ref (a0 0)), (2, .int v2), (3, .int v3)]) : W p l e ({ frames := 1, cells := 0, slots := 0, locals := 60 }) s m AR below meth c H locs 0 0 (MQ below (va_Qv (fun (_ : Unit) => True) (fun (_ : Unit) t => cf_At D A (wSB K h0 a0 r) t) A) AR s 0 0 A) (F0 m 0 ls []) := by
  obtain ⟨⟨hx, hb, hr, hts, hown, hlocks, hin, hml⟩, hE, hA⟩ := id C
  have hK := hE.k
  refine lv_aload_n hx hb dJString_getBytes_ABIB_0 rfl (lv_at hl 0 rfl) ?_
  obtain ⟨q_1, hq_1, h⟩ := op_b h
  refine cf_calli (wc := []) (wr := wSB K h0 a0 o0) (va_runV (As := []) (rest := []) ⟨hx, hb, hml, hown, hts⟩ (mJString_coder__S6 l D K _ _ hq_1) (cwV 0 hts (cf_GV wv_760 wv_761 wv_762 wv_168 wv_763) rfl rfl rfl (by decide +kernel) ⟨Nat.le_of_ble_eq_true rfl, Nat.le_of_ble_eq_true rfl⟩) (cf_preO (wc := []) (hE.s 6 rfl).2.1 hE hP hD hS hA [] rfl (by decide +kernel)) rfl rfl hl.1 rfl (lv_room (Nat.le_of_ble_eq_true rfl)) dJString_getBytes_ABIB_1 ⟨Nat.le_of_ble_eq_true rfl, Nat.le_of_ble_eq_true rfl⟩) hP hD hS hA [] [0, 1] rfl rfl (by decide +kernel) (by decide +kernel) (fun r_2 _ H locs hw_3 hP hD hS => ?_)
  subst r_2
  have hP : va_P D vwCl (wSB K h0 a0 o0) H := hP.sub [0, 1] rfl
  have hD : va_D A (wSB K h0 a0 o0) := hD.sub [0, 1] (by decide +kernel) rfl
  refine lv_iload_n hx hb dJString_getBytes_ABIB_4 rfl (lv_at hl 3 rfl) ?_
  refine lv_icmp_ne (tgt := 28) hx hb dJString_getBytes_ABIB_5 (by decide) (fun c_4 => ?_) (fun c_4 => ?_)
  · have h := op_f c_4 h
    refine lv_aload_n hx hb dJString_getBytes_ABIB_28 rfl (lv_at hl 0 rfl) ?_
    refine vk_getf hx hb (hE.s 6 rfl).2.2.2.1 hS hown (hts _ wv_1735) (fun _ h9 => h9) dJString_getBytes_ABIB_29 ?_
    refine lv_iconst (v := 0) hx hb dJString_getBytes_ABIB_32 (by decide) ?_
    refine lv_aload_n hx hb dJString_getBytes_ABIB_33 rfl (lv_at hl 1 rfl) ?_
    refine lv_iload_n hx hb dJString_getBytes_ABIB_34 rfl (lv_at hl 2 rfl) ?_
    refine lv_aload_n hx hb dJString_getBytes_ABIB_35 rfl (lv_at hl 0 rfl) ?_
    refine vk_getf hx hb (hE.s 6 rfl).2.2.2.1 hS hown (hts _ wv_1735) (fun _ h9 => h9) dJString_getBytes_ABIB_36 ?_
    refine va_tlen (v := 7) hx hb (hE.s 6 rfl).2.2.2.2 hS rfl dJString_getBytes_ABIB_39 ?_
    cases h
  · have h := op_t c_4 h
    refine lv_aload_n hx hb dJString_getBytes_ABIB_8 rfl (lv_at hl 0 rfl) ?_
    refine vk_getf hx hb (hE.s 6 rfl).2.2.2.1 hS hown (hts _ wv_1735) (fun _ h9 => h9) dJString_getBytes_ABIB_9 ?_
    refine lv_iconst (v := 0) hx hb dJString_getBytes_ABIB_12 (by decide) ?_
    refine lv_aload_n hx hb dJString_getBytes_ABIB_13 rfl (lv_at hl 1 rfl) ?_
    refine lv_iload_n hx hb dJString_getBytes_ABIB_14 rfl (lv_at hl 2 rfl) ?_
    refine lv_iload_n hx hb dJString_getBytes_ABIB_15 rfl (lv_at hl 3 rfl) ?_
    refine lv_ishl hx hb dJString_getBytes_ABIB_16 ?_
    refine lv_topi (fun x_5 ex_5 => ?_)
    have h := op_ks ex_5 h
    refine lv_aload_n hx hb dJString_getBytes_ABIB_17 rfl (lv_at hl 0 rfl) ?_
    refine vk_getf hx hb (hE.s 6 rfl).2.2.2.1 hS hown (hts _ wv_1735) (fun _ h9 => h9) dJString_getBytes_ABIB_18 ?_
    refine va_tlen (v := 7) hx hb (hE.s 6 rfl).2.2.2.2 hS rfl dJString_getBytes_ABIB_21 ?_
    obtain ⟨hi_6, h⟩ := op_n h
    refine vk_copyt (D := D) (f := cf_sb 6) hx hb (hml.trans hl.1.symm) hown (hts _ wv_1643) (hts _ wv_1295) (hts _ wv_1294) (hts _ wv_187) hK hP hD hS (hE.s 6 rfl).2.2.2.2 1 2 rfl rfl (by decide) (fun z => hi_6 (Or.inl z)) (by decide) (by decide) (Nat.not_lt.mp (fun z => hi_6 (Or.inr z))) (by decide) (Nat.le_of_ble_eq_true rfl) (Nat.le_of_ble_eq_true rfl) dJString_getBytes_ABIB_22 (fun H locs hP hD hS => ?_)
    have hP : va_P D vwCl (wSB K h0 a0 (cb o0 0 6 x_5 7)) H := hP
    have hD : va_D A (wSB K h0 a0 (cb o0 0 6 x_5 7)) := hD
    obtain ⟨o_7, eo_7, h⟩ := op_kx h
    rw [← eo_7] at hP hD
    refine lv_goto (tgt := 43) hx hb dJString_getBytes_ABIB_25 (by decide) ?_
    obtain rfl := Option.some.inj h
    exact dc_vret hx hb hr hlocks rfl hP hD hS dJString_getBytes_ABIB_43
set_option maxRecDepth 100000 in
theorem mJString_getBytes_ABIB_S6_SB0 (l : Launch) (D : va_G) (K : Nat → ClassId) (sz : Nat) (v2 : Int32) (v3 : Int32) (h0 : Nat) (a0 : Nat → Nat) (o0 : cf_O) (r : cf_O) (h : fJString_getBytes_ABIB_S6_SB0 v2 v3 o0 = some r) : Met l yJString_getBytes_ABIB (Cond.code yJString_getBytes_ABIB cJString_getBytes_ABIB 4 (Option.none : Option Jvm.ClassFile.FieldType) :: cfB) ({ frames := 1, cells := 0, slots := 0, locals := 60 }) (va_Pc [.ref (K 106), .ref (a0 0), .int v2, .int v3] (cf_Pre D K sz (wSB K h0 a0 o0))) (va_Qv (fun (_ : Unit) => True) (fun (_ : Unit) t => cf_At D (va_A (wSB K h0 a0 o0) sz) (wSB K h0 a0 r) t) (va_A (wSB K h0 a0 o0) sz)) 0 0 (va_A (wSB K h0 a0 o0) sz) := by
  refine cf_ofW (y := yJString_getBytes_ABIB) (As := [.ref (K 106), .ref (a0 0), .int v2, .int v3]) (WS := wSB K h0 a0 o0) (maxL := 4) (fun A => (va_Qv (fun (_ : Unit) => True) (fun (_ : Unit) t => cf_At D A (wSB K h0 a0 r) t) A)) (by decide) (Nat.le_of_ble_eq_true rfl) ?_
  intro p e s m below meth c A ls En hsz hA hP hD hE hS hl
  have C : (dc_C p s m (([.ref (K 106), .ref (a0 0), .int v2, .int v3] : List Value).toArray) meth c cJString_getBytes_ABIB 4 (Option.none : Option Jvm.ClassFile.FieldType) yJString_getBytes_ABIB ∧ cf_E D K A s s.heap ∧ ∀ q, s.heap.size ≤ q → A q) := ⟨En, hE, hA⟩
  exact bJString_getBytes_ABIB_S6_SB0_0 C v2 v3 o0 r h hP hD hS hl
set_option maxRecDepth 100000 in
theorem nAS_putStringAt_S6_0 (v1 : Int32) (o0 : cf_O) (r : cf_O) (h : fAS_putStringAt_S6_0 v1 o0 = some r) : phSB o0 ≤ phSB r := by
  have hm : phSB o0 ≤ phSB o0 := Nat.le_refl _
  obtain ⟨q_1, hq_1, h⟩ := op_b h
  obtain ⟨q_3, hq_3, h⟩ := op_b h
  have hm : phSB o0 ≤ phSB q_3 := Nat.le_trans hm (nJString_getBytes_ABIB_S6_SB0 _ _ _ _ hq_3)
  obtain rfl := Option.some.inj h
  exact hm
theorem nAS_putStringAt_S6 (v1 : Int32) (o0 : cf_O) (r : cf_O) (h : fAS_putStringAt_S6 v1 o0 = some r) : phSB o0 ≤ phSB r := nAS_putStringAt_S6_0  v1 o0 r h
set_option maxHeartbeats 4000000 in
set_option maxRecDepth 100000 in
theorem bAS_putStringAt_S6_0 {p : Program} {l : Launch} {e : Env} {s : State} {m : MethodId} {below : List Frame} {meth : Method} {c : Code} {A : Nat → Prop} {D : va_G} {K : Nat → ClassId} {h0 : Nat} {a0 : Nat → Nat} {AR : Array Value} (C : (dc_C p s m AR meth c cAS_putStringAt 3 (Option.none : Option Jvm.ClassFile.FieldType) yAS_putStringAt ∧ cf_E D K A s s.heap ∧ ∀ q, s.heap.size ≤ q → A q)) (v1 : Int32) (o0 : cf_O) (r : cf_O) (h : fAS_putStringAt_S6_0 v1 o0 = some r) {H : Heap} {locs : List Loc} {ls : Array Slot} (hP : va_P D vwCl (wSB K h0 a0 o0) H) (hD : va_D A (wSB K h0 a0 o0)) (hS : va_S A s.heap H locs) (hl : lv_has ls 3 [(0, .ref h0), (1, .int v1), (2, .ref (K 106))]) : W p l e ({ frames := 2, cells := 0, slots := 0, locals := 83 }) s m AR below meth c H locs 0 0 (MQ below (va_Qv (fun (_ : Unit) => True) (fun (_ : Unit) t => cf_At D A (wSB K h0 a0 r) t) A) AR s 0 0 A) (F0 m 0 ls []) := by
  obtain ⟨⟨hx, hb, hr, hts, hown, hlocks, hin, hml⟩, hE, hA⟩ := id C
  have hK := hE.k
  refine lv_aload_n hx hb dAS_putStringAt_0 rfl (lv_at hl 0 rfl) ?_
  refine lv_aload_n hx hb dAS_putStringAt_1 rfl (lv_at hl 2 rfl) ?_
  obtain ⟨q_1, hq_1, h⟩ := op_b h
  refine dc_callv (va_runU (As := [.ref (K 106)]) (rest := []) ⟨hx, hb, hml, hown, hts⟩ (mAS_inflateIfNeededFor_S6 l D K _ h0 a0 o0 _ hq_1) (cf_cwU (C := "java/lang/StringBuilder") 1 hts (cf_G1 wv_1618) rfl rfl rfl (hts _ wv_166) (hts _ wv_1615) (hts _ wv_2793) (va_Nw.use rfl (hE.n 32 rfl)) (hts _ wv_1617) (by decide +kernel) ⟨Nat.le_of_ble_eq_true rfl, Nat.le_of_ble_eq_true rfl⟩) (dc_preV hE hP hD hS hA rfl 0 rfl) rfl rfl hl.1 rfl (lv_room (Nat.le_of_ble_eq_true rfl)) dAS_putStringAt_2 ⟨Nat.le_of_ble_eq_true rfl, Nat.le_of_ble_eq_true rfl⟩) hP hD hS hA (fun H locs hP hD hS => ?_)
  refine lv_aload_n hx hb dAS_putStringAt_5 rfl (lv_at hl 2 rfl) ?_
  refine lv_aload_n hx hb dAS_putStringAt_6 rfl (lv_at hl 0 rfl) ?_
  refine va_get (D := D) (ci := 13) (v := .ref (a0 0)) (C := RSB) (T := TSB) (N := 4) hx hb hts inSB hown hK hP 0 rfl rfl 0 (by decide) (hts _ wv_453) (fun _ h9 => h9) rfl dAS_putStringAt_7 ?_
  refine lv_iload_n hx hb dAS_putStringAt_10 rfl (lv_at hl 1 rfl) ?_
  refine lv_aload_n hx hb dAS_putStringAt_11 rfl (lv_at hl 0 rfl) ?_
  refine va_get (D := D) (ci := 13) (v := .int (o0.1 1)) (C := RSB) (T := TSB) (N := 4) hx hb hts inSB hown hK hP 0 rfl rfl 1 (by decide) (hts _ wv_454) (fun _ h9 => h9) rfl dAS_putStringAt_12 ?_
  obtain ⟨q_3, hq_3, h⟩ := op_b h
  refine cf_callv (wc := wSB K h0 a0 o0) (wr := []) (va_runV (As := [.ref (a0 0), .int v1, .int (o0.1 1)]) (rest := []) ⟨hx, hb, hml, hown, hts⟩ (mJString_getBytes_ABIB_S6_SB0 l D K _ v1 (o0.1 1) h0 a0 o0 _ hq_3) (cwV 3 hts (cf_GV wv_1639 wv_1640 wv_1641 wv_168 wv_1642) rfl rfl rfl (by decide +kernel) ⟨Nat.le_of_ble_eq_true rfl, Nat.le_of_ble_eq_true rfl⟩) (cf_preO (wc := wSB K h0 a0 o0) (hE.s 6 rfl).2.1 hE hP hD hS hA [0, 1] rfl (by decide +kernel)) rfl rfl hl.1 rfl (lv_room (Nat.le_of_ble_eq_true rfl)) dAS_putStringAt_15 ⟨Nat.le_of_ble_eq_true rfl, Nat.le_of_ble_eq_true rfl⟩) hP hD hS hA [0, 1] [] rfl rfl (by decide +kernel) (by decide +kernel) (fun _ H locs hw_4 hP hD hS => ?_)
  have hP : va_P D vwCl (wSB K h0 a0 q_3) H := hP.sub [0, 1] rfl
  have hD : va_D A (wSB K h0 a0 q_3) := hD.sub [0, 1] (by decide +kernel) rfl
  obtain rfl := Option.some.inj h
  exact dc_vret hx hb hr hlocks rfl hP hD hS dAS_putStringAt_18
set_option maxRecDepth 100000 in
theorem mAS_putStringAt_S6 (l : Launch) (D : va_G) (K : Nat → ClassId) (sz : Nat) (v1 : Int32) (h0 : Nat) (a0 : Nat → Nat) (o0 : cf_O) (r : cf_O) (h : fAS_putStringAt_S6 v1 o0 = some r) : Met l yAS_putStringAt (Cond.code yAS_putStringAt cAS_putStringAt 3 (Option.none : Option Jvm.ClassFile.FieldType) :: cfB) ({ frames := 2, cells := 0, slots := 0, locals := 83 }) (va_Pc [.ref h0, .int v1, .ref (K 106)] (cf_Pre D K sz (wSB K h0 a0 o0))) (va_Qv (fun (_ : Unit) => True) (fun (_ : Unit) t => cf_At D (va_A (wSB K h0 a0 o0) sz) (wSB K h0 a0 r) t) (va_A (wSB K h0 a0 o0) sz)) 0 0 (va_A (wSB K h0 a0 o0) sz) := by
  refine cf_ofW (y := yAS_putStringAt) (As := [.ref h0, .int v1, .ref (K 106)]) (WS := wSB K h0 a0 o0) (maxL := 3) (fun A => (va_Qv (fun (_ : Unit) => True) (fun (_ : Unit) t => cf_At D A (wSB K h0 a0 r) t) A)) (by decide) (Nat.le_of_ble_eq_true rfl) ?_
  intro p e s m below meth c A ls En hsz hA hP hD hE hS hl
  have C : (dc_C p s m (([.ref h0, .int v1, .ref (K 106)] : List Value).toArray) meth c cAS_putStringAt 3 (Option.none : Option Jvm.ClassFile.FieldType) yAS_putStringAt ∧ cf_E D K A s s.heap ∧ ∀ q, s.heap.size ≤ q → A q) := ⟨En, hE, hA⟩
  exact bAS_putStringAt_S6_0 C v1 o0 r h hP hD hS hl
set_option maxRecDepth 100000 in
theorem nAS_appendS_S6_33 (v2 : Int32) (o0 : cf_O) (r : cf_O) (h : fAS_appendS_S6_33 v2 o0 = some r) : phSB o0 ≤ phSB r := by
  have hm : phSB o0 ≤ phSB o0 := Nat.le_refl _
  obtain ⟨x_1, ex_1, h⟩ := op_kx h
  obtain ⟨o_2, eo_2, h⟩ := op_kx h
  have hm : phSB o0 ≤ phSB o_2 := by rw [eo_2]; exact hm
  obtain rfl := Option.some.inj h
  exact hm
set_option maxRecDepth 100000 in
theorem nAS_appendS_S6_24 (v2 : Int32) (o0 : cf_O) (r : cf_O) (h : fAS_appendS_S6_24 v2 o0 = some r) : phSB o0 ≤ phSB r := by
  have hm : phSB o0 ≤ phSB o0 := Nat.le_refl _
  obtain ⟨q_1, hq_1, h⟩ := op_b h
  have hm : phSB o0 ≤ phSB q_1 := Nat.le_trans hm (nAS_putStringAt_S6 _ _ _ hq_1)
  exact Nat.le_trans hm (nAS_appendS_S6_33 _ _ _ h)
set_option maxRecDepth 100000 in
theorem nAS_appendS_S6_13 (s0 : Int32) (o0 : cf_O) (r : cf_O) (h : fAS_appendS_S6_13 s0 o0 = some r) : phSB o0 ≤ phSB r := by
  have hm : phSB o0 ≤ phSB o0 := Nat.le_refl _
  obtain ⟨x_1, ex_1, h⟩ := op_kx h
  obtain ⟨q_2, hq_2, h⟩ := op_b h
  have hm : phSB o0 ≤ phSB q_2 := Nat.le_trans hm (nAS_ensureCapacityInternal _ _ _ hq_2)
  exact Nat.le_trans hm (nAS_appendS_S6_24 _ _ _ h)
set_option maxRecDepth 100000 in
theorem nAS_appendS_S6_0 (o0 : cf_O) (r : cf_O) (h : fAS_appendS_S6_0 o0 = some r) : phSB o0 ≤ phSB r := by
  have hm : phSB o0 ≤ phSB o0 := Nat.le_refl _
  obtain ⟨q_1, hq_1, h⟩ := op_b h
  exact Nat.le_trans hm (nAS_appendS_S6_13 _ _ _ h)
theorem nAS_appendS_S6 (o0 : cf_O) (r : cf_O) (h : fAS_appendS_S6 o0 = some r) : phSB o0 ≤ phSB r := nAS_appendS_S6_0  o0 r h
set_option maxHeartbeats 4000000 in
set_option maxRecDepth 100000 in
theorem bAS_appendS_S6_33 {p : Program} {l : Launch} {e : Env} {s : State} {m : MethodId} {below : List Frame} {meth : Method} {c : Code} {A : Nat → Prop} {D : va_G} {K : Nat → ClassId} {h0 : Nat} {os : cf_O} {AR : Array Value} (C : (dc_C p s m AR meth c cAS_appendS 3 (Option.some (Jvm.ClassFile.FieldType.object "java/lang/AbstractStringBuilder")) yAS_appendS ∧ cf_E D K A s s.heap ∧ ∀ q, s.heap.size ≤ q → A q)) (v2 : Int32) (o0 : cf_O) (r : cf_O) (h : fAS_appendS_S6_33 v2 o0 = some r) {a0 : Nat → Nat} {H : Heap} {locs : List Loc} {ls : Array Slot} (hg : phSB os ≤ phSB o0) (hP : va_P D vwCl (wSB K h0 a0 o0) H) (hD : va_D A (wSB K h0 a0 o0)) (hS : va_S A s.heap H locs) (hl : lv_has ls 3 [(0, .ref h0), (2, .int v2)]) : W p l e ({ frames := 4, cells := (gC (phSB os) (phSB r)), slots := (gS (phSB os) (phSB r)), locals := 124 }) s m AR below meth c H locs (gC (phSB os) (phSB o0)) (gS (phSB os) (phSB o0)) (MQ below (va_Qr (fun (_ : Nat → Nat) => True) (fun (u : Nat → Nat) q t => cf_At D A (wSB K h0 u r) t ∧ q = h0) A) AR s (gC (phSB os) (phSB r)) (gS (phSB os) (phSB r)) A) (F0 m 33 ls []) := by
  obtain ⟨⟨hx, hb, hr, hts, hown, hlocks, hin, hml⟩, hE, hA⟩ := id C
  have hK := hE.k
  refine lv_aload_n hx hb dAS_appendS_33 rfl (lv_at hl 0 rfl) ?_
  refine lv_dup hx hb dAS_appendS_34 rfl ?_
  refine va_get (D := D) (ci := 13) (v := .int (o0.1 3)) (C := RSB) (T := TSB) (N := 4) hx hb hts inSB hown hK hP 0 rfl rfl 3 (by decide) (hts _ wv_457) (fun _ h9 => h9) rfl dAS_appendS_35 ?_
  refine lv_iload_n hx hb dAS_appendS_38 rfl (lv_at hl 1 rfl) ?_
  refine lv_iadd hx hb dAS_appendS_39 ?_
  refine lv_topi (fun x_1 ex_1 => ?_)
  have h := op_ks ex_1 h
  refine va_put (D := D) (ci := 13) (v := .int x_1) (ty := .int) (C := RSB) (T := TSB) (N := 4) hx hb hts inSB tySB tyokSB nmSB hown hK hP hD hS 0 rfl rfl 3 (by decide) (hts _ wv_457) (fun _ h9 => h9) rfl (by decide +kernel) rfl rfl (Nat.le_of_ble_eq_true rfl) dAS_appendS_40 (fun H locs hP hD hS => ?_)
  have hP : va_P D vwCl (wSB K h0 a0 (fp o0 3 x_1)) H := hP
  have hD : va_D A (wSB K h0 a0 (fp o0 3 x_1)) := hD
  obtain ⟨o_2, eo_2, h⟩ := op_kx h
  rw [← eo_2] at hP hD
  have hf_3 : phSB o_2 = phSB o0 := by rw [eo_2]; rfl
  refine W.widen (k := (gC (phSB os) (phSB o_2))) (n := (gS (phSB os) (phSB o_2))) (by rw [hf_3]; exact Nat.le_refl _) (by rw [hf_3]; exact Nat.le_refl _) ?_
  have hg : phSB os ≤ phSB o_2 := by rw [hf_3]; exact hg
  refine lv_aload_n hx hb dAS_appendS_43 rfl (lv_at hl 0 rfl) ?_
  obtain rfl := Option.some.inj h
  exact dc_aretG a0 hx hb hr ⟨_, rfl⟩ hlocks hP hD hS dAS_appendS_44
set_option maxHeartbeats 4000000 in
set_option maxRecDepth 100000 in
theorem bAS_appendS_S6_24 {p : Program} {l : Launch} {e : Env} {s : State} {m : MethodId} {below : List Frame} {meth : Method} {c : Code} {A : Nat → Prop} {D : va_G} {K : Nat → ClassId} {h0 : Nat} {os : cf_O} {AR : Array Value} (C : (dc_C p s m AR meth c cAS_appendS 3 (Option.some (Jvm.ClassFile.FieldType.object "java/lang/AbstractStringBuilder")) yAS_appendS ∧ cf_E D K A s s.heap ∧ ∀ q, s.heap.size ≤ q → A q)) (v2 : Int32) (o0 : cf_O) (r : cf_O) (h : fAS_appendS_S6_24 v2 o0 = some r) {a0 : Nat → Nat} {H : Heap} {locs : List Loc} {ls : Array Slot} (hg : phSB os ≤ phSB o0) (hP : va_P D vwCl (wSB K h0 a0 o0) H) (hD : va_D A (wSB K h0 a0 o0)) (hS : va_S A s.heap H locs) (hl : lv_has ls 3 [(0, .ref h0), (1, .ref (K 106)), (2, .int v2)]) : W p l e ({ frames := 4, cells := (gC (phSB os) (phSB r)), slots := (gS (phSB os) (phSB r)), locals := 124 }) s m AR below meth c H locs (gC (phSB os) (phSB o0)) (gS (phSB os) (phSB o0)) (MQ below (va_Qr (fun (_ : Nat → Nat) => True) (fun (u : Nat → Nat) q t => cf_At D A (wSB K h0 u r) t ∧ q = h0) A) AR s (gC (phSB os) (phSB r)) (gS (phSB os) (phSB r)) A) (F0 m 24 ls []) := by
  obtain ⟨⟨hx, hb, hr, hts, hown, hlocks, hin, hml⟩, hE, hA⟩ := id C
  have hK := hE.k
  refine lv_aload_n hx hb dAS_appendS_24 rfl (lv_at hl 0 rfl) ?_
  refine lv_aload_n hx hb dAS_appendS_25 rfl (lv_at hl 0 rfl) ?_
  refine va_get (D := D) (ci := 13) (v := .int (o0.1 3)) (C := RSB) (T := TSB) (N := 4) hx hb hts inSB hown hK hP 0 rfl rfl 3 (by decide) (hts _ wv_457) (fun _ h9 => h9) rfl dAS_appendS_26 ?_
  refine lv_aload_n hx hb dAS_appendS_29 rfl (lv_at hl 1 rfl) ?_
  obtain ⟨q_1, hq_1, h⟩ := op_b h
  have hgr_2 : phSB q_1 ≤ phSB r := nAS_appendS_S6_33 _ _ _ h
  have hg2_3 : phSB o0 ≤ phSB q_1 := nAS_putStringAt_S6 _ _ _ hq_1
  refine dc_callv (va_runU (As := [.int (o0.1 3), .ref (K 106)]) (rest := []) ⟨hx, hb, hml, hown, hts⟩ (mAS_putStringAt_S6 l D K _ (o0.1 3) h0 a0 o0 _ hq_1) (cf_cwU (C := "java/lang/StringBuilder") 2 hts (cf_G1 wv_1614) rfl rfl rfl (hts _ wv_166) (hts _ wv_1611) (hts _ wv_2792) (va_Nw.use rfl (hE.n 31 rfl)) (hts _ wv_1613) (by decide +kernel) ⟨Nat.le_of_ble_eq_true rfl, Nat.le_of_ble_eq_true rfl⟩) (dc_preV hE hP hD hS hA rfl 0 rfl) rfl rfl hl.1 rfl (lv_room (Nat.le_of_ble_eq_true rfl)) dAS_appendS_30 ⟨gC_le (Nat.le_trans hg2_3 hgr_2), gS_le (Nat.le_trans hg2_3 hgr_2)⟩) hP hD hS hA (fun H locs hP hD hS => ?_)
  refine W.widen (k := (gC (phSB os) (phSB q_1))) (n := (gS (phSB os) (phSB q_1))) (gC_le hg2_3) (gS_le hg2_3) ?_
  have hg : phSB os ≤ phSB q_1 := Nat.le_trans hg hg2_3
  exact bAS_appendS_S6_33 C _ _ _ h hg hP hD hS (lv_sub hl [0, 2] rfl)
set_option maxHeartbeats 4000000 in
set_option maxRecDepth 100000 in
theorem bAS_appendS_S6_13 {p : Program} {l : Launch} {e : Env} {s : State} {m : MethodId} {below : List Frame} {meth : Method} {c : Code} {A : Nat → Prop} {D : va_G} {K : Nat → ClassId} {h0 : Nat} {os : cf_O} {AR : Array Value} (C : (dc_C p s m AR meth c cAS_appendS 3 (Option.some (Jvm.ClassFile.FieldType.object "java/lang/AbstractStringBuilder")) yAS_appendS ∧ cf_E D K A s s.heap ∧ ∀ q, s.heap.size ≤ q → A q)) (s0 : Int32) (o0 : cf_O) (r : cf_O) (h : fAS_appendS_S6_13 s0 o0 = some r) {a0 : Nat → Nat} {H : Heap} {locs : List Loc} {ls : Array Slot} (hg : phSB os ≤ phSB o0) (hP : va_P D vwCl (wSB K h0 a0 o0) H) (hD : va_D A (wSB K h0 a0 o0)) (hS : va_S A s.heap H locs) (hl : lv_has ls 3 [(0, .ref h0), (1, .ref (K 106))]) : W p l e ({ frames := 4, cells := (gC (phSB os) (phSB r)), slots := (gS (phSB os) (phSB r)), locals := 124 }) s m AR below meth c H locs (gC (phSB os) (phSB o0)) (gS (phSB os) (phSB o0)) (MQ below (va_Qr (fun (_ : Nat → Nat) => True) (fun (u : Nat → Nat) q t => cf_At D A (wSB K h0 u r) t ∧ q = h0) A) AR s (gC (phSB os) (phSB r)) (gS (phSB os) (phSB r)) A) (F0 m 13 ls [.int s0]) := by
  obtain ⟨⟨hx, hb, hr, hts, hown, hlocks, hin, hml⟩, hE, hA⟩ := id C
  have hK := hE.k
  refine lv_istore_n (lv' := [(2, .int s0), (0, .ref h0), (1, .ref (K 106))]) hx hb dAS_appendS_13 rfl hl (by decide) rfl (fun ls hl => ?_)
  refine lv_aload_n hx hb dAS_appendS_14 rfl (lv_at hl 1 rfl) ?_
  refine lv_aload_n hx hb dAS_appendS_15 rfl (lv_at hl 1 rfl) ?_
  refine va_get (D := D) (ci := 13) (v := .int (o0.1 3)) (C := RSB) (T := TSB) (N := 4) hx hb hts inSB hown hK hP 0 rfl rfl 3 (by decide) (hts _ wv_457) (fun _ h9 => h9) rfl dAS_appendS_16 ?_
  refine lv_iload_n hx hb dAS_appendS_19 rfl (lv_at hl 0 rfl) ?_
  refine lv_iadd hx hb dAS_appendS_20 ?_
  refine lv_topi (fun x_1 ex_1 => ?_)
  have h := op_ks ex_1 h
  obtain ⟨q_2, hq_2, h⟩ := op_b h
  have hgr_3 : phSB q_2 ≤ phSB r := nAS_appendS_S6_24 _ _ _ h
  have hg2_4 : phSB o0 ≤ phSB q_2 := nAS_ensureCapacityInternal _ _ _ hq_2
  refine cf_callv (wc := wSB K h0 a0 o0) (wr := []) (va_runU (As := [.int x_1]) (rest := []) ⟨hx, hb, hml, hown, hts⟩ (mAS_ensureCapacityInternal l D K _ x_1 h0 a0 o0 _ hq_2) (cf_cwU (C := "java/lang/StringBuilder") 1 hts (cf_G1 wv_1568) rfl rfl rfl (hts _ wv_166) (hts _ wv_1565) (hts _ wv_2790) (va_Nw.use rfl (hE.n 29 rfl)) (hts _ wv_1567) (by decide +kernel) ⟨Nat.le_of_ble_eq_true rfl, Nat.le_of_ble_eq_true rfl⟩) (cf_preV (wc := wSB K h0 a0 o0) hE hP hD hS hA rfl 0 rfl [0, 1] rfl (by decide +kernel)) rfl rfl hl.1 rfl (lv_room (Nat.le_of_ble_eq_true rfl)) dAS_appendS_21 ⟨Nat.le_trans (gC_add hg hg2_4) (gC_le hgr_3), Nat.le_trans (gS_add hg hg2_4) (gS_le hgr_3)⟩) hP hD hS hA [0, 1] [] rfl rfl (by decide +kernel) (by decide +kernel) (fun a0_6 H locs hw_5 hP hD hS => ?_)
  have hP : va_P D vwCl (wSB K h0 a0_6 q_2) H := hP.sub [0, 1] rfl
  have hD : va_D A (wSB K h0 a0_6 q_2) := hD.sub [0, 1] (by decide +kernel) rfl
  refine W.widen (k := (gC (phSB os) (phSB q_2))) (n := (gS (phSB os) (phSB q_2))) (gC_add hg hg2_4) (gS_add hg hg2_4) ?_
  have hg : phSB os ≤ phSB q_2 := Nat.le_trans hg hg2_4
  exact bAS_appendS_S6_24 C _ _ _ h hg hP hD hS (lv_sub hl [1, 2, 0] rfl)
set_option maxHeartbeats 4000000 in
set_option maxRecDepth 100000 in
theorem bAS_appendS_S6_0 {p : Program} {l : Launch} {e : Env} {s : State} {m : MethodId} {below : List Frame} {meth : Method} {c : Code} {A : Nat → Prop} {D : va_G} {K : Nat → ClassId} {h0 : Nat} {os : cf_O} {AR : Array Value} (C : (dc_C p s m AR meth c cAS_appendS 3 (Option.some (Jvm.ClassFile.FieldType.object "java/lang/AbstractStringBuilder")) yAS_appendS ∧ cf_E D K A s s.heap ∧ ∀ q, s.heap.size ≤ q → A q)) (o0 : cf_O) (r : cf_O) (h : fAS_appendS_S6_0 o0 = some r) {a0 : Nat → Nat} {H : Heap} {locs : List Loc} {ls : Array Slot} (hg : phSB os ≤ phSB o0) (hP : va_P D vwCl (wSB K h0 a0 o0) H) (hD : va_D A (wSB K h0 a0 o0)) (hS : va_S A s.heap H locs) (hl : lv_has ls 3 [(0, .ref h0), (1, .ref (K 106))]) : W p l e ({ frames := 4, cells := (gC (phSB os) (phSB r)), slots := (gS (phSB os) (phSB r)), locals := 124 }) s m AR below meth c H locs (gC (phSB os) (phSB o0)) (gS (phSB os) (phSB o0)) (MQ below (va_Qr (fun (_ : Nat → Nat) => True) (fun (u : Nat → Nat) q t => cf_At D A (wSB K h0 u r) t ∧ q = h0) A) AR s (gC (phSB os) (phSB r)) (gS (phSB os) (phSB r)) A) (F0 m 0 ls []) := by
  obtain ⟨⟨hx, hb, hr, hts, hown, hlocks, hin, hml⟩, hE, hA⟩ := id C
  have hK := hE.k
  refine lv_aload_n hx hb dAS_appendS_0 rfl (lv_at hl 1 rfl) ?_
  refine lv_ifnonnull (tgt := 9) hx hb dAS_appendS_1 (by decide) ?_
  refine lv_aload_n hx hb dAS_appendS_9 rfl (lv_at hl 1 rfl) ?_
  obtain ⟨q_1, hq_1, h⟩ := op_b h
  have hgr_2 : phSB o0 ≤ phSB r := nAS_appendS_S6_13 _ _ _ h
  refine cf_calli (wc := []) (wr := wSB K h0 a0 o0) (va_runV (As := []) (rest := []) ⟨hx, hb, hml, hown, hts⟩ (mJString_length__S6 l D K _ _ hq_1) (cwV 0 hts (cf_GV wv_1610 wv_757 wv_758 wv_168 wv_759) rfl rfl rfl (by decide +kernel) ⟨Nat.le_of_ble_eq_true rfl, Nat.le_of_ble_eq_true rfl⟩) (cf_preO (wc := []) (hE.s 6 rfl).2.1 hE hP hD hS hA [] rfl (by decide +kernel)) rfl rfl hl.1 rfl (lv_room (Nat.le_of_ble_eq_true rfl)) dAS_appendS_10 ⟨gC_le hgr_2, gS_le hgr_2⟩) hP hD hS hA [] [0, 1] rfl rfl (by decide +kernel) (by decide +kernel) (fun r_4 _ H locs hw_5 hP hD hS => ?_)
  subst r_4
  have hP : va_P D vwCl (wSB K h0 a0 o0) H := hP.sub [0, 1] rfl
  have hD : va_D A (wSB K h0 a0 o0) := hD.sub [0, 1] (by decide +kernel) rfl
  refine W.widen (k := (gC (phSB os) (phSB o0))) (n := (gS (phSB os) (phSB o0))) (Nat.le_refl _) (Nat.le_refl _) ?_
  exact bAS_appendS_S6_13 C _ _ _ h hg hP hD hS (lv_sub hl [0, 1] rfl)
set_option maxRecDepth 100000 in
theorem mAS_appendS_S6 (l : Launch) (D : va_G) (K : Nat → ClassId) (sz : Nat) (h0 : Nat) (a0 : Nat → Nat) (o0 : cf_O) (r : cf_O) (h : fAS_appendS_S6 o0 = some r) : Met l yAS_appendS (Cond.code yAS_appendS cAS_appendS 3 (Option.some (Jvm.ClassFile.FieldType.object "java/lang/AbstractStringBuilder")) :: cfB) ({ frames := 4, cells := (gC (phSB o0) (phSB r)), slots := (gS (phSB o0) (phSB r)), locals := 124 }) (va_Pc [.ref h0, .ref (K 106)] (cf_Pre D K sz (wSB K h0 a0 o0))) (va_Qr (fun (_ : Nat → Nat) => True) (fun (u : Nat → Nat) q t => cf_At D (va_A (wSB K h0 a0 o0) sz) (wSB K h0 u r) t ∧ q = h0) (va_A (wSB K h0 a0 o0) sz)) (gC (phSB o0) (phSB r)) (gS (phSB o0) (phSB r)) (va_A (wSB K h0 a0 o0) sz) := by
  refine cf_ofW (y := yAS_appendS) (As := [.ref h0, .ref (K 106)]) (WS := wSB K h0 a0 o0) (maxL := 3) (fun A => (va_Qr (fun (_ : Nat → Nat) => True) (fun (u : Nat → Nat) q t => cf_At D A (wSB K h0 u r) t ∧ q = h0) A)) (by decide) (Nat.le_of_ble_eq_true rfl) ?_
  intro p e s m below meth c A ls En hsz hA hP hD hE hS hl
  have C : (dc_C p s m (([.ref h0, .ref (K 106)] : List Value).toArray) meth c cAS_appendS 3 (Option.some (Jvm.ClassFile.FieldType.object "java/lang/AbstractStringBuilder")) yAS_appendS ∧ cf_E D K A s s.heap ∧ ∀ q, s.heap.size ≤ q → A q) := ⟨En, hE, hA⟩
  refine W.widen (k := gC (phSB o0) (phSB o0)) (n := gS (phSB o0) (phSB o0)) (Nat.zero_le _) (Nat.zero_le _) ?_
  exact bAS_appendS_S6_0 C o0 r h (Nat.le_refl _) hP hD hS hl
set_option maxRecDepth 100000 in
theorem nSB_appendS_S6_5 (o0 : cf_O) (r : cf_O) (h : fSB_appendS_S6_5 o0 = some r) : phSB o0 ≤ phSB r := by
  have hm : phSB o0 ≤ phSB o0 := Nat.le_refl _
  obtain rfl := Option.some.inj h
  exact hm
set_option maxRecDepth 100000 in
theorem nSB_appendS_S6_0 (o0 : cf_O) (r : cf_O) (h : fSB_appendS_S6_0 o0 = some r) : phSB o0 ≤ phSB r := by
  have hm : phSB o0 ≤ phSB o0 := Nat.le_refl _
  obtain ⟨q_1, hq_1, h⟩ := op_b h
  have hm : phSB o0 ≤ phSB q_1 := Nat.le_trans hm (nAS_appendS_S6 _ _ hq_1)
  exact Nat.le_trans hm (nSB_appendS_S6_5 _ _ h)
theorem nSB_appendS_S6 (o0 : cf_O) (r : cf_O) (h : fSB_appendS_S6 o0 = some r) : phSB o0 ≤ phSB r := nSB_appendS_S6_0  o0 r h
set_option maxHeartbeats 4000000 in
set_option maxRecDepth 100000 in
theorem bSB_appendS_S6_5 {p : Program} {l : Launch} {e : Env} {s : State} {m : MethodId} {below : List Frame} {meth : Method} {c : Code} {A : Nat → Prop} {D : va_G} {K : Nat → ClassId} {h0 : Nat} {os : cf_O} {AR : Array Value} (C : (dc_C p s m AR meth c cSB_appendS 2 (Option.some (Jvm.ClassFile.FieldType.object "java/lang/StringBuilder")) ySB_appendS ∧ cf_E D K A s s.heap ∧ ∀ q, s.heap.size ≤ q → A q)) (o0 : cf_O) (r : cf_O) (h : fSB_appendS_S6_5 o0 = some r) {a0 : Nat → Nat} {H : Heap} {locs : List Loc} {ls : Array Slot} (hg : phSB os ≤ phSB o0) (hP : va_P D vwCl (wSB K h0 a0 o0) H) (hD : va_D A (wSB K h0 a0 o0)) (hS : va_S A s.heap H locs) (hl : lv_has ls 2 [(0, .ref h0)]) : W p l e ({ frames := 5, cells := (gC (phSB os) (phSB r)), slots := (gS (phSB os) (phSB r)), locals := 146 }) s m AR below meth c H locs (gC (phSB os) (phSB o0)) (gS (phSB os) (phSB o0)) (MQ below (va_Qr (fun (_ : Nat → Nat) => True) (fun (u : Nat → Nat) q t => cf_At D A (wSB K h0 u r) t ∧ q = h0) A) AR s (gC (phSB os) (phSB r)) (gS (phSB os) (phSB r)) A) (F0 m 5 ls [.ref h0]) := by
  obtain ⟨⟨hx, hb, hr, hts, hown, hlocks, hin, hml⟩, hE, hA⟩ := id C
  have hK := hE.k
  refine lv_pop hx hb dSB_appendS_5 rfl ?_
  refine lv_aload_n hx hb dSB_appendS_6 rfl (lv_at hl 0 rfl) ?_
  obtain rfl := Option.some.inj h
  exact dc_aretG a0 hx hb hr ⟨_, rfl⟩ hlocks hP hD hS dSB_appendS_7
set_option maxHeartbeats 4000000 in
set_option maxRecDepth 100000 in
theorem bSB_appendS_S6_0 {p : Program} {l : Launch} {e : Env} {s : State} {m : MethodId} {below : List Frame} {meth : Method} {c : Code} {A : Nat → Prop} {D : va_G} {K : Nat → ClassId} {h0 : Nat} {os : cf_O} {AR : Array Value} (C : (dc_C p s m AR meth c cSB_appendS 2 (Option.some (Jvm.ClassFile.FieldType.object "java/lang/StringBuilder")) ySB_appendS ∧ cf_E D K A s s.heap ∧ ∀ q, s.heap.size ≤ q → A q)) (o0 : cf_O) (r : cf_O) (h : fSB_appendS_S6_0 o0 = some r) {a0 : Nat → Nat} {H : Heap} {locs : List Loc} {ls : Array Slot} (hg : phSB os ≤ phSB o0) (hP : va_P D vwCl (wSB K h0 a0 o0) H) (hD : va_D A (wSB K h0 a0 o0)) (hS : va_S A s.heap H locs) (hl : lv_has ls 2 [(0, .ref h0), (1, .ref (K 106))]) : W p l e ({ frames := 5, cells := (gC (phSB os) (phSB r)), slots := (gS (phSB os) (phSB r)), locals := 146 }) s m AR below meth c H locs (gC (phSB os) (phSB o0)) (gS (phSB os) (phSB o0)) (MQ below (va_Qr (fun (_ : Nat → Nat) => True) (fun (u : Nat → Nat) q t => cf_At D A (wSB K h0 u r) t ∧ q = h0) A) AR s (gC (phSB os) (phSB r)) (gS (phSB os) (phSB r)) A) (F0 m 0 ls []) := by
  obtain ⟨⟨hx, hb, hr, hts, hown, hlocks, hin, hml⟩, hE, hA⟩ := id C
  have hK := hE.k
  refine lv_aload_n hx hb dSB_appendS_0 rfl (lv_at hl 0 rfl) ?_
  refine lv_aload_n hx hb dSB_appendS_1 rfl (lv_at hl 1 rfl) ?_
  obtain ⟨q_1, hq_1, h⟩ := op_b h
  have hgr_2 : phSB q_1 ≤ phSB r := nSB_appendS_S6_5 _ _ h
  have hg2_3 : phSB o0 ≤ phSB q_1 := nAS_appendS_S6 _ _ hq_1
  refine cf_callR (wc := wSB K h0 a0 o0) (wr := []) (va_runSU (hK.1 13 _ rfl).2 (As := [.ref (K 106)]) (rest := []) ⟨hx, hb, hml, hown, hts⟩ (mAS_appendS_S6 l D K _ h0 a0 o0 _ hq_1) (cf_cwSU 1 hts (cf_G1 wv_1560) rfl rfl rfl (hts _ wv_1558) (hts _ wv_2788) (hts _ wv_466) (hts _ wv_1559) (hts _ wv_166) (by decide +kernel) ⟨Nat.le_of_ble_eq_true rfl, Nat.le_of_ble_eq_true rfl⟩) (cf_preV (wc := wSB K h0 a0 o0) hE hP hD hS hA rfl 0 rfl [0, 1] rfl (by decide +kernel)) rfl rfl hl.1 rfl (lv_room (Nat.le_of_ble_eq_true rfl)) dSB_appendS_2 ⟨Nat.le_trans (gC_add hg hg2_3) (gC_le hgr_2), Nat.le_trans (gS_add hg hg2_3) (gS_le hgr_2)⟩) hP hD hS hA [0, 1] [] rfl rfl (by decide +kernel) (by decide +kernel) (fun a0_5 H locs hw_4 hP hD hS => ?_)
  have hP : va_P D vwCl (wSB K h0 a0_5 q_1) H := hP.sub [0, 1] rfl
  have hD : va_D A (wSB K h0 a0_5 q_1) := hD.sub [0, 1] (by decide +kernel) rfl
  refine W.widen (k := (gC (phSB os) (phSB q_1))) (n := (gS (phSB os) (phSB q_1))) (gC_add hg hg2_3) (gS_add hg hg2_3) ?_
  have hg : phSB os ≤ phSB q_1 := Nat.le_trans hg hg2_3
  exact bSB_appendS_S6_5 C _ _ h hg hP hD hS (lv_sub hl [0] rfl)
set_option maxRecDepth 100000 in
theorem mSB_appendS_S6 (l : Launch) (D : va_G) (K : Nat → ClassId) (sz : Nat) (h0 : Nat) (a0 : Nat → Nat) (o0 : cf_O) (r : cf_O) (h : fSB_appendS_S6 o0 = some r) : Met l ySB_appendS (Cond.code ySB_appendS cSB_appendS 2 (Option.some (Jvm.ClassFile.FieldType.object "java/lang/StringBuilder")) :: cfB) ({ frames := 5, cells := (gC (phSB o0) (phSB r)), slots := (gS (phSB o0) (phSB r)), locals := 146 }) (va_Pc [.ref h0, .ref (K 106)] (cf_Pre D K sz (wSB K h0 a0 o0))) (va_Qr (fun (_ : Nat → Nat) => True) (fun (u : Nat → Nat) q t => cf_At D (va_A (wSB K h0 a0 o0) sz) (wSB K h0 u r) t ∧ q = h0) (va_A (wSB K h0 a0 o0) sz)) (gC (phSB o0) (phSB r)) (gS (phSB o0) (phSB r)) (va_A (wSB K h0 a0 o0) sz) := by
  refine cf_ofW (y := ySB_appendS) (As := [.ref h0, .ref (K 106)]) (WS := wSB K h0 a0 o0) (maxL := 2) (fun A => (va_Qr (fun (_ : Nat → Nat) => True) (fun (u : Nat → Nat) q t => cf_At D A (wSB K h0 u r) t ∧ q = h0) A)) (by decide) (Nat.le_of_ble_eq_true rfl) ?_
  intro p e s m below meth c A ls En hsz hA hP hD hE hS hl
  have C : (dc_C p s m (([.ref h0, .ref (K 106)] : List Value).toArray) meth c cSB_appendS 2 (Option.some (Jvm.ClassFile.FieldType.object "java/lang/StringBuilder")) ySB_appendS ∧ cf_E D K A s s.heap ∧ ∀ q, s.heap.size ≤ q → A q) := ⟨En, hE, hA⟩
  refine W.widen (k := gC (phSB o0) (phSB o0)) (n := gS (phSB o0) (phSB o0)) (Nat.zero_le _) (Nat.zero_le _) ?_
  exact bSB_appendS_S6_0 C o0 r h (Nat.le_refl _) hP hD hS hl
set_option maxHeartbeats 4000000 in
set_option maxRecDepth 100000 in
theorem bJStringLatin1_canEncode_C_12 {p : Program} {l : Launch} {e : Env} {s : State} {m : MethodId} {below : List Frame} {meth : Method} {c : Code} {AR : Array Value} (C : dc_C p s m AR meth c cJStringLatin1_canEncode_C 1 (Option.some Jvm.ClassFile.FieldType.boolean) yJStringLatin1_canEncode_C) (s0 : Int32) (r : Int32) (h : fJStringLatin1_canEncode_C_12 s0 = some r) {ls : Array Slot} (hl : lv_has ls 1 []) : W p l e ({ frames := 0, cells := 0, slots := 0, locals := 0 }) s m AR below meth c s.heap [] 0 0 (MQ below (cf_Pi (fun x => x = r)) AR s 0 0 (fun _ => False)) (F0 m 12 ls [.int s0]) := by
  obtain ⟨hx, hb, hr, hts, hown, hlocks, hin, hml⟩ := id C
  obtain ⟨hz_1, h⟩ := op_w h
  obtain rfl := Option.some.inj h
  exact W.zret hx hb hr (op_z hz_1) (fun t ht hW => ⟨_, rfl, rfl, ht⟩) cf_pnil dJStringLatin1_canEncode_C_12 hlocks
set_option maxHeartbeats 4000000 in
set_option maxRecDepth 100000 in
theorem bJStringLatin1_canEncode_C_0 {p : Program} {l : Launch} {e : Env} {s : State} {m : MethodId} {below : List Frame} {meth : Method} {c : Code} {AR : Array Value} (C : dc_C p s m AR meth c cJStringLatin1_canEncode_C 1 (Option.some Jvm.ClassFile.FieldType.boolean) yJStringLatin1_canEncode_C) (v0 : Int32) (r : Int32) (h : fJStringLatin1_canEncode_C_0 v0 = some r) {ls : Array Slot} (hl : lv_has ls 1 [(0, .int v0)]) : W p l e ({ frames := 0, cells := 0, slots := 0, locals := 0 }) s m AR below meth c s.heap [] 0 0 (MQ below (cf_Pi (fun x => x = r)) AR s 0 0 (fun _ => False)) (F0 m 0 ls []) := by
  obtain ⟨hx, hb, hr, hts, hown, hlocks, hin, hml⟩ := id C
  refine lv_iload_n hx hb dJStringLatin1_canEncode_C_0 rfl (lv_at hl 0 rfl) ?_
  refine lv_sipush (v := 255) hx hb dJStringLatin1_canEncode_C_1 (by decide) ?_
  refine lv_icmp_gt (tgt := 11) hx hb dJStringLatin1_canEncode_C_4 (by decide) (fun c_1 => ?_) (fun c_1 => ?_)
  · have h := op_t c_1 h
    refine lv_iconst (v := 0) hx hb dJStringLatin1_canEncode_C_11 (by decide) ?_
    exact bJStringLatin1_canEncode_C_12 C _ _ h (lv_sub hl [] rfl)
  · have h := op_f c_1 h
    refine lv_iconst (v := 1) hx hb dJStringLatin1_canEncode_C_7 (by decide) ?_
    refine lv_goto (tgt := 12) hx hb dJStringLatin1_canEncode_C_8 (by decide) ?_
    exact bJStringLatin1_canEncode_C_12 C _ _ h (lv_sub hl [] rfl)
theorem mJStringLatin1_canEncode_C (l : Launch) (v0 : Int32) (r : Int32) (h : fJStringLatin1_canEncode_C v0 = some r) : Met l yJStringLatin1_canEncode_C (Cond.code yJStringLatin1_canEncode_C cJStringLatin1_canEncode_C 1 (Option.some Jvm.ClassFile.FieldType.boolean) :: cfB) ({ frames := 0, cells := 0, slots := 0, locals := 0 }) (fun v _ => v = ([.int v0] : List Value).toArray) (cf_Pi (fun x => x = r)) 0 0 (fun _ => False) := by
  refine cf_ofP (y := yJStringLatin1_canEncode_C) (As := [.int v0]) (maxL := 1) (cf_Pi (fun x => x = r)) (by decide) (Nat.le_of_ble_eq_true rfl) ?_
  intro p e s m below meth c ls C hl
  exact bJStringLatin1_canEncode_C_0 (l := l) C v0 r h hl
set_option maxRecDepth 100000 in
theorem nAS_appendC_49 (v1 : Int32) (s0 : Int32) (o0 : cf_O) (r : cf_O) (h : fAS_appendC_49 v1 s0 o0 = some r) : phSB o0 ≤ phSB r := by
  have hm : phSB o0 ≤ phSB o0 := Nat.le_refl _
  rcases (Classical.em (s0 = (0 : Int32))) with c_1 | c_1
  · have h := op_t c_1 h
    obtain ⟨x_2, ex_2, h⟩ := op_kx h
    obtain ⟨o_3, eo_3, h⟩ := op_kx h
    have hm : phSB o0 ≤ phSB o_3 := by rw [eo_3]; exact hm
    cases h
  · have h := op_f c_1 h
    cases h
set_option maxRecDepth 100000 in
theorem nAS_appendC_45 (v1 : Int32) (o0 : cf_O) (r : cf_O) (h : fAS_appendC_45 v1 o0 = some r) : phSB o0 ≤ phSB r := by
  have hm : phSB o0 ≤ phSB o0 := Nat.le_refl _
  obtain ⟨q_1, hq_1, h⟩ := op_b h
  exact Nat.le_trans hm (nAS_appendC_49 _ _ _ _ h)
set_option maxRecDepth 100000 in
theorem nAS_appendC_21 (v1 : Int32) (s0 : Int32) (o0 : cf_O) (r : cf_O) (h : fAS_appendC_21 v1 s0 o0 = some r) : phSB o0 ≤ phSB r := by
  have hm : phSB o0 ≤ phSB o0 := Nat.le_refl _
  rcases (Classical.em (s0 = (0 : Int32))) with c_1 | c_1
  · have h := op_t c_1 h
    exact Nat.le_trans hm (nAS_appendC_45 _ _ _ h)
  · have h := op_f c_1 h
    obtain ⟨x_2, ex_2, h⟩ := op_kx h
    obtain ⟨o_3, eo_3, h⟩ := op_kx h
    have hm : phSB o0 ≤ phSB o_3 := by rw [eo_3]; exact hm
    obtain ⟨x_5, ex_5, h⟩ := op_kx h
    obtain ⟨hi_6, h⟩ := op_n h
    obtain ⟨o_7, eo_7, h⟩ := op_kx h
    have hm : phSB o0 ≤ phSB o_7 := by rw [eo_7]; exact hm
    obtain rfl := Option.some.inj h
    exact hm
set_option maxRecDepth 100000 in
theorem nAS_appendC_14 (v1 : Int32) (s0 : Int32) (o0 : cf_O) (r : cf_O) (h : fAS_appendC_14 v1 s0 o0 = some r) : phSB o0 ≤ phSB r := by
  have hm : phSB o0 ≤ phSB o0 := Nat.le_refl _
  rcases (Classical.em (s0 = (0 : Int32))) with c_1 | c_1
  · have h := op_t c_1 h
    exact Nat.le_trans hm (nAS_appendC_45 _ _ _ h)
  · have h := op_f c_1 h
    obtain ⟨q_2, hq_2, h⟩ := op_b h
    exact Nat.le_trans hm (nAS_appendC_21 _ _ _ _ h)
set_option maxRecDepth 100000 in
theorem nAS_appendC_10 (v1 : Int32) (o0 : cf_O) (r : cf_O) (h : fAS_appendC_10 v1 o0 = some r) : phSB o0 ≤ phSB r := by
  have hm : phSB o0 ≤ phSB o0 := Nat.le_refl _
  obtain ⟨q_1, hq_1, h⟩ := op_b h
  exact Nat.le_trans hm (nAS_appendC_14 _ _ _ _ h)
set_option maxRecDepth 100000 in
theorem nAS_appendC_0 (v1 : Int32) (o0 : cf_O) (r : cf_O) (h : fAS_appendC_0 v1 o0 = some r) : phSB o0 ≤ phSB r := by
  have hm : phSB o0 ≤ phSB o0 := Nat.le_refl _
  obtain ⟨x_1, ex_1, h⟩ := op_kx h
  obtain ⟨q_2, hq_2, h⟩ := op_b h
  have hm : phSB o0 ≤ phSB q_2 := Nat.le_trans hm (nAS_ensureCapacityInternal _ _ _ hq_2)
  exact Nat.le_trans hm (nAS_appendC_10 _ _ _ h)
theorem nAS_appendC (v1 : Int32) (o0 : cf_O) (r : cf_O) (h : fAS_appendC v1 o0 = some r) : phSB o0 ≤ phSB r := nAS_appendC_0  v1 o0 r h
set_option maxHeartbeats 4000000 in
set_option maxRecDepth 100000 in
theorem bAS_appendC_49 {p : Program} {l : Launch} {e : Env} {s : State} {m : MethodId} {below : List Frame} {meth : Method} {c : Code} {A : Nat → Prop} {D : va_G} {K : Nat → ClassId} {h0 : Nat} {os : cf_O} {AR : Array Value} (C : (dc_C p s m AR meth c cAS_appendC 2 (Option.some (Jvm.ClassFile.FieldType.object "java/lang/AbstractStringBuilder")) yAS_appendC ∧ cf_E D K A s s.heap ∧ ∀ q, s.heap.size ≤ q → A q)) (v1 : Int32) (s0 : Int32) (o0 : cf_O) (r : cf_O) (h : fAS_appendC_49 v1 s0 o0 = some r) {a0 : Nat → Nat} {H : Heap} {locs : List Loc} {ls : Array Slot} (hg : phSB os ≤ phSB o0) (hP : va_P D vwCl (wSB K h0 a0 o0) H) (hD : va_D A (wSB K h0 a0 o0)) (hS : va_S A s.heap H locs) (hl : lv_has ls 2 [(0, .ref h0), (1, .int v1)]) : W p l e ({ frames := 4, cells := (gC (phSB os) (phSB r)), slots := (gS (phSB os) (phSB r)), locals := 124 }) s m AR below meth c H locs (gC (phSB os) (phSB o0)) (gS (phSB os) (phSB o0)) (MQ below (va_Qr (fun (_ : Nat → Nat) => True) (fun (u : Nat → Nat) q t => cf_At D A (wSB K h0 u r) t ∧ q = h0) A) AR s (gC (phSB os) (phSB r)) (gS (phSB os) (phSB r)) A) (F0 m 49 ls [.int s0]) := by
  obtain ⟨⟨hx, hb, hr, hts, hown, hlocks, hin, hml⟩, hE, hA⟩ := id C
  have hK := hE.k
  refine lv_if_eq (tgt := 56) hx hb dAS_appendC_49 (by decide) (fun c_1 => ?_) (fun c_1 => ?_)
  · have h := op_t c_1 h
    refine lv_aload_n hx hb dAS_appendC_56 rfl (lv_at hl 0 rfl) ?_
    refine va_get (D := D) (ci := 13) (v := .ref (a0 0)) (C := RSB) (T := TSB) (N := 4) hx hb hts inSB hown hK hP 0 rfl rfl 0 (by decide) (hts _ wv_453) (fun _ h9 => h9) rfl dAS_appendC_57 ?_
    refine lv_aload_n hx hb dAS_appendC_60 rfl (lv_at hl 0 rfl) ?_
    refine lv_dup hx hb dAS_appendC_61 rfl ?_
    refine va_get (D := D) (ci := 13) (v := .int (o0.1 3)) (C := RSB) (T := TSB) (N := 4) hx hb hts inSB hown hK hP 0 rfl rfl 3 (by decide) (hts _ wv_457) (fun _ h9 => h9) rfl dAS_appendC_62 ?_
    refine lv_dup_x1 hx hb dAS_appendC_65 rfl rfl ?_
    refine lv_iconst (v := 1) hx hb dAS_appendC_66 (by decide) ?_
    refine lv_iadd hx hb dAS_appendC_67 ?_
    refine lv_topi (fun x_2 ex_2 => ?_)
    have h := op_ks ex_2 h
    refine va_put (D := D) (ci := 13) (v := .int x_2) (ty := .int) (C := RSB) (T := TSB) (N := 4) hx hb hts inSB tySB tyokSB nmSB hown hK hP hD hS 0 rfl rfl 3 (by decide) (hts _ wv_457) (fun _ h9 => h9) rfl (by decide +kernel) rfl rfl (Nat.le_of_ble_eq_true rfl) dAS_appendC_68 (fun H locs hP hD hS => ?_)
    have hP : va_P D vwCl (wSB K h0 a0 (fp o0 3 x_2)) H := hP
    have hD : va_D A (wSB K h0 a0 (fp o0 3 x_2)) := hD
    obtain ⟨o_3, eo_3, h⟩ := op_kx h
    rw [← eo_3] at hP hD
    have hf_4 : phSB o_3 = phSB o0 := by rw [eo_3]; rfl
    refine W.widen (k := (gC (phSB os) (phSB o_3))) (n := (gS (phSB os) (phSB o_3))) (by rw [hf_4]; exact Nat.le_refl _) (by rw [hf_4]; exact Nat.le_refl _) ?_
    have hg : phSB os ≤ phSB o_3 := by rw [hf_4]; exact hg
    refine lv_iload_n hx hb dAS_appendC_71 rfl (lv_at hl 1 rfl) ?_
    cases h
  · have h := op_f c_1 h
    refine lv_aload_n hx hb dAS_appendC_52 rfl (lv_at hl 0 rfl) ?_
    cases h
set_option maxHeartbeats 4000000 in
set_option maxRecDepth 100000 in
theorem bAS_appendC_45 {p : Program} {l : Launch} {e : Env} {s : State} {m : MethodId} {below : List Frame} {meth : Method} {c : Code} {A : Nat → Prop} {D : va_G} {K : Nat → ClassId} {h0 : Nat} {os : cf_O} {AR : Array Value} (C : (dc_C p s m AR meth c cAS_appendC 2 (Option.some (Jvm.ClassFile.FieldType.object "java/lang/AbstractStringBuilder")) yAS_appendC ∧ cf_E D K A s s.heap ∧ ∀ q, s.heap.size ≤ q → A q)) (v1 : Int32) (o0 : cf_O) (r : cf_O) (h : fAS_appendC_45 v1 o0 = some r) {a0 : Nat → Nat} {H : Heap} {locs : List Loc} {ls : Array Slot} (hg : phSB os ≤ phSB o0) (hP : va_P D vwCl (wSB K h0 a0 o0) H) (hD : va_D A (wSB K h0 a0 o0)) (hS : va_S A s.heap H locs) (hl : lv_has ls 2 [(0, .ref h0), (1, .int v1)]) : W p l e ({ frames := 4, cells := (gC (phSB os) (phSB r)), slots := (gS (phSB os) (phSB r)), locals := 124 }) s m AR below meth c H locs (gC (phSB os) (phSB o0)) (gS (phSB os) (phSB o0)) (MQ below (va_Qr (fun (_ : Nat → Nat) => True) (fun (u : Nat → Nat) q t => cf_At D A (wSB K h0 u r) t ∧ q = h0) A) AR s (gC (phSB os) (phSB r)) (gS (phSB os) (phSB r)) A) (F0 m 45 ls []) := by
  obtain ⟨⟨hx, hb, hr, hts, hown, hlocks, hin, hml⟩, hE, hA⟩ := id C
  have hK := hE.k
  refine lv_aload_n hx hb dAS_appendC_45 rfl (lv_at hl 0 rfl) ?_
  obtain ⟨q_1, hq_1, h⟩ := op_b h
  have hgr_2 : phSB o0 ≤ phSB r := nAS_appendC_49 _ _ _ _ h
  refine dc_calli (va_runU (As := []) (rest := []) ⟨hx, hb, hml, hown, hts⟩ (mAS_isLatin1 l D K _ h0 a0 o0 _ hq_1) (cf_cwU (C := "java/lang/StringBuilder") 0 hts (cf_G1 wv_1594) rfl rfl rfl (hts _ wv_166) (hts _ wv_1590) (hts _ wv_1592) (hts _ wv_1593) (hts _ wv_1591) (by decide +kernel) ⟨Nat.le_of_ble_eq_true rfl, Nat.le_of_ble_eq_true rfl⟩) (dc_preV hE hP hD hS hA rfl 0 rfl) rfl rfl hl.1 rfl (lv_room (Nat.le_of_ble_eq_true rfl)) dAS_appendC_46 ⟨gC_le hgr_2, gS_le hgr_2⟩) hP hD hS hA (fun r_4 H locs hw_5 hP hD hS => ?_)
  subst r_4
  refine W.widen (k := (gC (phSB os) (phSB o0))) (n := (gS (phSB os) (phSB o0))) (Nat.le_refl _) (Nat.le_refl _) ?_
  exact bAS_appendC_49 C _ _ _ _ h hg hP hD hS (lv_sub hl [0, 1] rfl)
set_option maxHeartbeats 4000000 in
set_option maxRecDepth 100000 in
theorem bAS_appendC_21 {p : Program} {l : Launch} {e : Env} {s : State} {m : MethodId} {below : List Frame} {meth : Method} {c : Code} {A : Nat → Prop} {D : va_G} {K : Nat → ClassId} {h0 : Nat} {os : cf_O} {AR : Array Value} (C : (dc_C p s m AR meth c cAS_appendC 2 (Option.some (Jvm.ClassFile.FieldType.object "java/lang/AbstractStringBuilder")) yAS_appendC ∧ cf_E D K A s s.heap ∧ ∀ q, s.heap.size ≤ q → A q)) (v1 : Int32) (s0 : Int32) (o0 : cf_O) (r : cf_O) (h : fAS_appendC_21 v1 s0 o0 = some r) {a0 : Nat → Nat} {H : Heap} {locs : List Loc} {ls : Array Slot} (hg : phSB os ≤ phSB o0) (hP : va_P D vwCl (wSB K h0 a0 o0) H) (hD : va_D A (wSB K h0 a0 o0)) (hS : va_S A s.heap H locs) (hl : lv_has ls 2 [(0, .ref h0), (1, .int v1)]) : W p l e ({ frames := 4, cells := (gC (phSB os) (phSB r)), slots := (gS (phSB os) (phSB r)), locals := 124 }) s m AR below meth c H locs (gC (phSB os) (phSB o0)) (gS (phSB os) (phSB o0)) (MQ below (va_Qr (fun (_ : Nat → Nat) => True) (fun (u : Nat → Nat) q t => cf_At D A (wSB K h0 u r) t ∧ q = h0) A) AR s (gC (phSB os) (phSB r)) (gS (phSB os) (phSB r)) A) (F0 m 21 ls [.int s0]) := by
  obtain ⟨⟨hx, hb, hr, hts, hown, hlocks, hin, hml⟩, hE, hA⟩ := id C
  have hK := hE.k
  refine lv_if_eq (tgt := 45) hx hb dAS_appendC_21 (by decide) (fun c_1 => ?_) (fun c_1 => ?_)
  · have h := op_t c_1 h
    exact bAS_appendC_45 C _ _ _ h hg hP hD hS (lv_sub hl [0, 1] rfl)
  · have h := op_f c_1 h
    refine lv_aload_n hx hb dAS_appendC_24 rfl (lv_at hl 0 rfl) ?_
    refine va_get (D := D) (ci := 13) (v := .ref (a0 0)) (C := RSB) (T := TSB) (N := 4) hx hb hts inSB hown hK hP 0 rfl rfl 0 (by decide) (hts _ wv_453) (fun _ h9 => h9) rfl dAS_appendC_25 ?_
    refine lv_aload_n hx hb dAS_appendC_28 rfl (lv_at hl 0 rfl) ?_
    refine lv_dup hx hb dAS_appendC_29 rfl ?_
    refine va_get (D := D) (ci := 13) (v := .int (o0.1 3)) (C := RSB) (T := TSB) (N := 4) hx hb hts inSB hown hK hP 0 rfl rfl 3 (by decide) (hts _ wv_457) (fun _ h9 => h9) rfl dAS_appendC_30 ?_
    refine lv_dup_x1 hx hb dAS_appendC_33 rfl rfl ?_
    refine lv_iconst (v := 1) hx hb dAS_appendC_34 (by decide) ?_
    refine lv_iadd hx hb dAS_appendC_35 ?_
    refine lv_topi (fun x_2 ex_2 => ?_)
    have h := op_ks ex_2 h
    refine va_put (D := D) (ci := 13) (v := .int x_2) (ty := .int) (C := RSB) (T := TSB) (N := 4) hx hb hts inSB tySB tyokSB nmSB hown hK hP hD hS 0 rfl rfl 3 (by decide) (hts _ wv_457) (fun _ h9 => h9) rfl (by decide +kernel) rfl rfl (Nat.le_of_ble_eq_true rfl) dAS_appendC_36 (fun H locs hP hD hS => ?_)
    have hP : va_P D vwCl (wSB K h0 a0 (fp o0 3 x_2)) H := hP
    have hD : va_D A (wSB K h0 a0 (fp o0 3 x_2)) := hD
    obtain ⟨o_3, eo_3, h⟩ := op_kx h
    rw [← eo_3] at hP hD
    have hf_4 : phSB o_3 = phSB o0 := by rw [eo_3]; rfl
    refine W.widen (k := (gC (phSB os) (phSB o_3))) (n := (gS (phSB os) (phSB o_3))) (by rw [hf_4]; exact Nat.le_refl _) (by rw [hf_4]; exact Nat.le_refl _) ?_
    have hg : phSB os ≤ phSB o_3 := by rw [hf_4]; exact hg
    refine lv_iload_n hx hb dAS_appendC_39 rfl (lv_at hl 1 rfl) ?_
    refine lv_i2b hx hb dAS_appendC_40 rfl ?_
    refine lv_topi (fun x_5 ex_5 => ?_)
    have h := op_ks ex_5 h
    obtain ⟨hi_6, h⟩ := op_n h
    refine va_bast (D := D) hx hb hK hP hD hS 1 2 rfl rfl hi_6 dAS_appendC_41 (fun H locs hP hD hS => ?_)
    have hP : va_P D vwCl (wSB K h0 a0 (xp o_3 0 (o0.1 3).toNatClampNeg (vp_nar .byte x_5))) H := hP
    have hD : va_D A (wSB K h0 a0 (xp o_3 0 (o0.1 3).toNatClampNeg (vp_nar .byte x_5))) := hD
    obtain ⟨o_7, eo_7, h⟩ := op_kx h
    rw [← eo_7] at hP hD
    have hf_8 : phSB o_7 = phSB o_3 := by rw [eo_7]; rfl
    refine W.widen (k := (gC (phSB os) (phSB o_7))) (n := (gS (phSB os) (phSB o_7))) (by rw [hf_8]; exact Nat.le_refl _) (by rw [hf_8]; exact Nat.le_refl _) ?_
    have hg : phSB os ≤ phSB o_7 := by rw [hf_8]; exact hg
    refine lv_goto (tgt := 75) hx hb dAS_appendC_42 (by decide) ?_
    refine lv_aload_n hx hb dAS_appendC_75 rfl (lv_at hl 0 rfl) ?_
    obtain rfl := Option.some.inj h
    exact dc_aretG a0 hx hb hr ⟨_, rfl⟩ hlocks hP hD hS dAS_appendC_76
set_option maxHeartbeats 4000000 in
set_option maxRecDepth 100000 in
theorem bAS_appendC_14 {p : Program} {l : Launch} {e : Env} {s : State} {m : MethodId} {below : List Frame} {meth : Method} {c : Code} {A : Nat → Prop} {D : va_G} {K : Nat → ClassId} {h0 : Nat} {os : cf_O} {AR : Array Value} (C : (dc_C p s m AR meth c cAS_appendC 2 (Option.some (Jvm.ClassFile.FieldType.object "java/lang/AbstractStringBuilder")) yAS_appendC ∧ cf_E D K A s s.heap ∧ ∀ q, s.heap.size ≤ q → A q)) (v1 : Int32) (s0 : Int32) (o0 : cf_O) (r : cf_O) (h : fAS_appendC_14 v1 s0 o0 = some r) {a0 : Nat → Nat} {H : Heap} {locs : List Loc} {ls : Array Slot} (hg : phSB os ≤ phSB o0) (hP : va_P D vwCl (wSB K h0 a0 o0) H) (hD : va_D A (wSB K h0 a0 o0)) (hS : va_S A s.heap H locs) (hl : lv_has ls 2 [(0, .ref h0), (1, .int v1)]) : W p l e ({ frames := 4, cells := (gC (phSB os) (phSB r)), slots := (gS (phSB os) (phSB r)), locals := 124 }) s m AR below meth c H locs (gC (phSB os) (phSB o0)) (gS (phSB os) (phSB o0)) (MQ below (va_Qr (fun (_ : Nat → Nat) => True) (fun (u : Nat → Nat) q t => cf_At D A (wSB K h0 u r) t ∧ q = h0) A) AR s (gC (phSB os) (phSB r)) (gS (phSB os) (phSB r)) A) (F0 m 14 ls [.int s0]) := by
  obtain ⟨⟨hx, hb, hr, hts, hown, hlocks, hin, hml⟩, hE, hA⟩ := id C
  have hK := hE.k
  refine lv_if_eq (tgt := 45) hx hb dAS_appendC_14 (by decide) (fun c_1 => ?_) (fun c_1 => ?_)
  · have h := op_t c_1 h
    exact bAS_appendC_45 C _ _ _ h hg hP hD hS (lv_sub hl [0, 1] rfl)
  · have h := op_f c_1 h
    refine lv_iload_n hx hb dAS_appendC_17 rfl (lv_at hl 1 rfl) ?_
    obtain ⟨q_2, hq_2, h⟩ := op_b h
    have hgr_3 : phSB o0 ≤ phSB r := nAS_appendC_21 _ _ _ _ h
    refine cf_pcalli (va_runS (As := [.int v1]) (rest := []) ⟨hx, hb, hml, hown, hts⟩ (mJStringLatin1_canEncode_C l v1 _ hq_2) (va_cwS 1 hts (cf_GS wv_1805 wv_1806 wv_179 wv_1807) rfl rfl rfl (by decide +kernel) ⟨Nat.le_of_ble_eq_true rfl, Nat.le_of_ble_eq_true rfl⟩) preEq rfl rfl hl.1 rfl (lv_room (Nat.le_of_ble_eq_true rfl)) dAS_appendC_18 ⟨gC_le hgr_3, gS_le hgr_3⟩) (fun r_5 hw_6 => ?_)
    subst r_5
    refine W.widen (k := (gC (phSB os) (phSB o0))) (n := (gS (phSB os) (phSB o0))) (Nat.le_refl _) (Nat.le_refl _) ?_
    exact bAS_appendC_21 C _ _ _ _ h hg hP hD hS (lv_sub hl [0, 1] rfl)
set_option maxHeartbeats 4000000 in
set_option maxRecDepth 100000 in
theorem bAS_appendC_10 {p : Program} {l : Launch} {e : Env} {s : State} {m : MethodId} {below : List Frame} {meth : Method} {c : Code} {A : Nat → Prop} {D : va_G} {K : Nat → ClassId} {h0 : Nat} {os : cf_O} {AR : Array Value} (C : (dc_C p s m AR meth c cAS_appendC 2 (Option.some (Jvm.ClassFile.FieldType.object "java/lang/AbstractStringBuilder")) yAS_appendC ∧ cf_E D K A s s.heap ∧ ∀ q, s.heap.size ≤ q → A q)) (v1 : Int32) (o0 : cf_O) (r : cf_O) (h : fAS_appendC_10 v1 o0 = some r) {a0 : Nat → Nat} {H : Heap} {locs : List Loc} {ls : Array Slot} (hg : phSB os ≤ phSB o0) (hP : va_P D vwCl (wSB K h0 a0 o0) H) (hD : va_D A (wSB K h0 a0 o0)) (hS : va_S A s.heap H locs) (hl : lv_has ls 2 [(0, .ref h0), (1, .int v1)]) : W p l e ({ frames := 4, cells := (gC (phSB os) (phSB r)), slots := (gS (phSB os) (phSB r)), locals := 124 }) s m AR below meth c H locs (gC (phSB os) (phSB o0)) (gS (phSB os) (phSB o0)) (MQ below (va_Qr (fun (_ : Nat → Nat) => True) (fun (u : Nat → Nat) q t => cf_At D A (wSB K h0 u r) t ∧ q = h0) A) AR s (gC (phSB os) (phSB r)) (gS (phSB os) (phSB r)) A) (F0 m 10 ls []) := by
  obtain ⟨⟨hx, hb, hr, hts, hown, hlocks, hin, hml⟩, hE, hA⟩ := id C
  have hK := hE.k
  refine lv_aload_n hx hb dAS_appendC_10 rfl (lv_at hl 0 rfl) ?_
  obtain ⟨q_1, hq_1, h⟩ := op_b h
  have hgr_2 : phSB o0 ≤ phSB r := nAS_appendC_14 _ _ _ _ h
  refine dc_calli (va_runU (As := []) (rest := []) ⟨hx, hb, hml, hown, hts⟩ (mAS_isLatin1 l D K _ h0 a0 o0 _ hq_1) (cf_cwU (C := "java/lang/StringBuilder") 0 hts (cf_G1 wv_1594) rfl rfl rfl (hts _ wv_166) (hts _ wv_1590) (hts _ wv_1592) (hts _ wv_1593) (hts _ wv_1591) (by decide +kernel) ⟨Nat.le_of_ble_eq_true rfl, Nat.le_of_ble_eq_true rfl⟩) (dc_preV hE hP hD hS hA rfl 0 rfl) rfl rfl hl.1 rfl (lv_room (Nat.le_of_ble_eq_true rfl)) dAS_appendC_11 ⟨gC_le hgr_2, gS_le hgr_2⟩) hP hD hS hA (fun r_4 H locs hw_5 hP hD hS => ?_)
  subst r_4
  refine W.widen (k := (gC (phSB os) (phSB o0))) (n := (gS (phSB os) (phSB o0))) (Nat.le_refl _) (Nat.le_refl _) ?_
  exact bAS_appendC_14 C _ _ _ _ h hg hP hD hS (lv_sub hl [0, 1] rfl)
set_option maxHeartbeats 4000000 in
set_option maxRecDepth 100000 in
theorem bAS_appendC_0 {p : Program} {l : Launch} {e : Env} {s : State} {m : MethodId} {below : List Frame} {meth : Method} {c : Code} {A : Nat → Prop} {D : va_G} {K : Nat → ClassId} {h0 : Nat} {os : cf_O} {AR : Array Value} (C : (dc_C p s m AR meth c cAS_appendC 2 (Option.some (Jvm.ClassFile.FieldType.object "java/lang/AbstractStringBuilder")) yAS_appendC ∧ cf_E D K A s s.heap ∧ ∀ q, s.heap.size ≤ q → A q)) (v1 : Int32) (o0 : cf_O) (r : cf_O) (h : fAS_appendC_0 v1 o0 = some r) {a0 : Nat → Nat} {H : Heap} {locs : List Loc} {ls : Array Slot} (hg : phSB os ≤ phSB o0) (hP : va_P D vwCl (wSB K h0 a0 o0) H) (hD : va_D A (wSB K h0 a0 o0)) (hS : va_S A s.heap H locs) (hl : lv_has ls 2 [(0, .ref h0), (1, .int v1)]) : W p l e ({ frames := 4, cells := (gC (phSB os) (phSB r)), slots := (gS (phSB os) (phSB r)), locals := 124 }) s m AR below meth c H locs (gC (phSB os) (phSB o0)) (gS (phSB os) (phSB o0)) (MQ below (va_Qr (fun (_ : Nat → Nat) => True) (fun (u : Nat → Nat) q t => cf_At D A (wSB K h0 u r) t ∧ q = h0) A) AR s (gC (phSB os) (phSB r)) (gS (phSB os) (phSB r)) A) (F0 m 0 ls []) := by
  obtain ⟨⟨hx, hb, hr, hts, hown, hlocks, hin, hml⟩, hE, hA⟩ := id C
  have hK := hE.k
  refine lv_aload_n hx hb dAS_appendC_0 rfl (lv_at hl 0 rfl) ?_
  refine lv_aload_n hx hb dAS_appendC_1 rfl (lv_at hl 0 rfl) ?_
  refine va_get (D := D) (ci := 13) (v := .int (o0.1 3)) (C := RSB) (T := TSB) (N := 4) hx hb hts inSB hown hK hP 0 rfl rfl 3 (by decide) (hts _ wv_457) (fun _ h9 => h9) rfl dAS_appendC_2 ?_
  refine lv_iconst (v := 1) hx hb dAS_appendC_5 (by decide) ?_
  refine lv_iadd hx hb dAS_appendC_6 ?_
  refine lv_topi (fun x_1 ex_1 => ?_)
  have h := op_ks ex_1 h
  obtain ⟨q_2, hq_2, h⟩ := op_b h
  have hgr_3 : phSB q_2 ≤ phSB r := nAS_appendC_10 _ _ _ h
  have hg2_4 : phSB o0 ≤ phSB q_2 := nAS_ensureCapacityInternal _ _ _ hq_2
  refine cf_callv (wc := wSB K h0 a0 o0) (wr := []) (va_runU (As := [.int x_1]) (rest := []) ⟨hx, hb, hml, hown, hts⟩ (mAS_ensureCapacityInternal l D K _ x_1 h0 a0 o0 _ hq_2) (cf_cwU (C := "java/lang/StringBuilder") 1 hts (cf_G1 wv_1568) rfl rfl rfl (hts _ wv_166) (hts _ wv_1565) (hts _ wv_2790) (va_Nw.use rfl (hE.n 29 rfl)) (hts _ wv_1567) (by decide +kernel) ⟨Nat.le_of_ble_eq_true rfl, Nat.le_of_ble_eq_true rfl⟩) (cf_preV (wc := wSB K h0 a0 o0) hE hP hD hS hA rfl 0 rfl [0, 1] rfl (by decide +kernel)) rfl rfl hl.1 rfl (lv_room (Nat.le_of_ble_eq_true rfl)) dAS_appendC_7 ⟨Nat.le_trans (gC_add hg hg2_4) (gC_le hgr_3), Nat.le_trans (gS_add hg hg2_4) (gS_le hgr_3)⟩) hP hD hS hA [0, 1] [] rfl rfl (by decide +kernel) (by decide +kernel) (fun a0_6 H locs hw_5 hP hD hS => ?_)
  have hP : va_P D vwCl (wSB K h0 a0_6 q_2) H := hP.sub [0, 1] rfl
  have hD : va_D A (wSB K h0 a0_6 q_2) := hD.sub [0, 1] (by decide +kernel) rfl
  refine W.widen (k := (gC (phSB os) (phSB q_2))) (n := (gS (phSB os) (phSB q_2))) (gC_add hg hg2_4) (gS_add hg hg2_4) ?_
  have hg : phSB os ≤ phSB q_2 := Nat.le_trans hg hg2_4
  exact bAS_appendC_10 C _ _ _ h hg hP hD hS (lv_sub hl [0, 1] rfl)
set_option maxRecDepth 100000 in
theorem mAS_appendC (l : Launch) (D : va_G) (K : Nat → ClassId) (sz : Nat) (v1 : Int32) (h0 : Nat) (a0 : Nat → Nat) (o0 : cf_O) (r : cf_O) (h : fAS_appendC v1 o0 = some r) : Met l yAS_appendC (Cond.code yAS_appendC cAS_appendC 2 (Option.some (Jvm.ClassFile.FieldType.object "java/lang/AbstractStringBuilder")) :: cfB) ({ frames := 4, cells := (gC (phSB o0) (phSB r)), slots := (gS (phSB o0) (phSB r)), locals := 124 }) (va_Pc [.ref h0, .int v1] (cf_Pre D K sz (wSB K h0 a0 o0))) (va_Qr (fun (_ : Nat → Nat) => True) (fun (u : Nat → Nat) q t => cf_At D (va_A (wSB K h0 a0 o0) sz) (wSB K h0 u r) t ∧ q = h0) (va_A (wSB K h0 a0 o0) sz)) (gC (phSB o0) (phSB r)) (gS (phSB o0) (phSB r)) (va_A (wSB K h0 a0 o0) sz) := by
  refine cf_ofW (y := yAS_appendC) (As := [.ref h0, .int v1]) (WS := wSB K h0 a0 o0) (maxL := 2) (fun A => (va_Qr (fun (_ : Nat → Nat) => True) (fun (u : Nat → Nat) q t => cf_At D A (wSB K h0 u r) t ∧ q = h0) A)) (by decide) (Nat.le_of_ble_eq_true rfl) ?_
  intro p e s m below meth c A ls En hsz hA hP hD hE hS hl
  have C : (dc_C p s m (([.ref h0, .int v1] : List Value).toArray) meth c cAS_appendC 2 (Option.some (Jvm.ClassFile.FieldType.object "java/lang/AbstractStringBuilder")) yAS_appendC ∧ cf_E D K A s s.heap ∧ ∀ q, s.heap.size ≤ q → A q) := ⟨En, hE, hA⟩
  refine W.widen (k := gC (phSB o0) (phSB o0)) (n := gS (phSB o0) (phSB o0)) (Nat.zero_le _) (Nat.zero_le _) ?_
  exact bAS_appendC_0 C v1 o0 r h (Nat.le_refl _) hP hD hS hl
set_option maxRecDepth 100000 in
theorem nSB_appendC_5 (o0 : cf_O) (r : cf_O) (h : fSB_appendC_5 o0 = some r) : phSB o0 ≤ phSB r := by
  have hm : phSB o0 ≤ phSB o0 := Nat.le_refl _
  obtain rfl := Option.some.inj h
  exact hm
set_option maxRecDepth 100000 in
theorem nSB_appendC_0 (v1 : Int32) (o0 : cf_O) (r : cf_O) (h : fSB_appendC_0 v1 o0 = some r) : phSB o0 ≤ phSB r := by
  have hm : phSB o0 ≤ phSB o0 := Nat.le_refl _
  obtain ⟨q_1, hq_1, h⟩ := op_b h
  have hm : phSB o0 ≤ phSB q_1 := Nat.le_trans hm (nAS_appendC _ _ _ hq_1)
  exact Nat.le_trans hm (nSB_appendC_5 _ _ h)
theorem nSB_appendC (v1 : Int32) (o0 : cf_O) (r : cf_O) (h : fSB_appendC v1 o0 = some r) : phSB o0 ≤ phSB r := nSB_appendC_0  v1 o0 r h
set_option maxHeartbeats 4000000 in
set_option maxRecDepth 100000 in
theorem bSB_appendC_5 {p : Program} {l : Launch} {e : Env} {s : State} {m : MethodId} {below : List Frame} {meth : Method} {c : Code} {A : Nat → Prop} {D : va_G} {K : Nat → ClassId} {h0 : Nat} {os : cf_O} {AR : Array Value} (C : (dc_C p s m AR meth c cSB_appendC 2 (Option.some (Jvm.ClassFile.FieldType.object "java/lang/StringBuilder")) ySB_appendC ∧ cf_E D K A s s.heap ∧ ∀ q, s.heap.size ≤ q → A q)) (o0 : cf_O) (r : cf_O) (h : fSB_appendC_5 o0 = some r) {a0 : Nat → Nat} {H : Heap} {locs : List Loc} {ls : Array Slot} (hg : phSB os ≤ phSB o0) (hP : va_P D vwCl (wSB K h0 a0 o0) H) (hD : va_D A (wSB K h0 a0 o0)) (hS : va_S A s.heap H locs) (hl : lv_has ls 2 [(0, .ref h0)]) : W p l e ({ frames := 5, cells := (gC (phSB os) (phSB r)), slots := (gS (phSB os) (phSB r)), locals := 145 }) s m AR below meth c H locs (gC (phSB os) (phSB o0)) (gS (phSB os) (phSB o0)) (MQ below (va_Qr (fun (_ : Nat → Nat) => True) (fun (u : Nat → Nat) q t => cf_At D A (wSB K h0 u r) t ∧ q = h0) A) AR s (gC (phSB os) (phSB r)) (gS (phSB os) (phSB r)) A) (F0 m 5 ls [.ref h0]) := by
  obtain ⟨⟨hx, hb, hr, hts, hown, hlocks, hin, hml⟩, hE, hA⟩ := id C
  have hK := hE.k
  refine lv_pop hx hb dSB_appendC_5 rfl ?_
  refine lv_aload_n hx hb dSB_appendC_6 rfl (lv_at hl 0 rfl) ?_
  obtain rfl := Option.some.inj h
  exact dc_aretG a0 hx hb hr ⟨_, rfl⟩ hlocks hP hD hS dSB_appendC_7
set_option maxHeartbeats 4000000 in
set_option maxRecDepth 100000 in
theorem bSB_appendC_0 {p : Program} {l : Launch} {e : Env} {s : State} {m : MethodId} {below : List Frame} {meth : Method} {c : Code} {A : Nat → Prop} {D : va_G} {K : Nat → ClassId} {h0 : Nat} {os : cf_O} {AR : Array Value} (C : (dc_C p s m AR meth c cSB_appendC 2 (Option.some (Jvm.ClassFile.FieldType.object "java/lang/StringBuilder")) ySB_appendC ∧ cf_E D K A s s.heap ∧ ∀ q, s.heap.size ≤ q → A q)) (v1 : Int32) (o0 : cf_O) (r : cf_O) (h : fSB_appendC_0 v1 o0 = some r) {a0 : Nat → Nat} {H : Heap} {locs : List Loc} {ls : Array Slot} (hg : phSB os ≤ phSB o0) (hP : va_P D vwCl (wSB K h0 a0 o0) H) (hD : va_D A (wSB K h0 a0 o0)) (hS : va_S A s.heap H locs) (hl : lv_has ls 2 [(0, .ref h0), (1, .int v1)]) : W p l e ({ frames := 5, cells := (gC (phSB os) (phSB r)), slots := (gS (phSB os) (phSB r)), locals := 145 }) s m AR below meth c H locs (gC (phSB os) (phSB o0)) (gS (phSB os) (phSB o0)) (MQ below (va_Qr (fun (_ : Nat → Nat) => True) (fun (u : Nat → Nat) q t => cf_At D A (wSB K h0 u r) t ∧ q = h0) A) AR s (gC (phSB os) (phSB r)) (gS (phSB os) (phSB r)) A) (F0 m 0 ls []) := by
  obtain ⟨⟨hx, hb, hr, hts, hown, hlocks, hin, hml⟩, hE, hA⟩ := id C
  have hK := hE.k
  refine lv_aload_n hx hb dSB_appendC_0 rfl (lv_at hl 0 rfl) ?_
  refine lv_iload_n hx hb dSB_appendC_1 rfl (lv_at hl 1 rfl) ?_
  obtain ⟨q_1, hq_1, h⟩ := op_b h
  have hgr_2 : phSB q_1 ≤ phSB r := nSB_appendC_5 _ _ h
  have hg2_3 : phSB o0 ≤ phSB q_1 := nAS_appendC _ _ _ hq_1
  refine cf_callR (wc := wSB K h0 a0 o0) (wr := []) (va_runSU (hK.1 13 _ rfl).2 (As := [.int v1]) (rest := []) ⟨hx, hb, hml, hown, hts⟩ (mAS_appendC l D K _ v1 h0 a0 o0 _ hq_1) (cf_cwSU 1 hts (cf_G1 wv_1804) rfl rfl rfl (hts _ wv_1802) (hts _ wv_2796) (hts _ wv_466) (hts _ wv_1803) (hts _ wv_166) (by decide +kernel) ⟨Nat.le_of_ble_eq_true rfl, Nat.le_of_ble_eq_true rfl⟩) (cf_preV (wc := wSB K h0 a0 o0) hE hP hD hS hA rfl 0 rfl [0, 1] rfl (by decide +kernel)) rfl rfl hl.1 rfl (lv_room (Nat.le_of_ble_eq_true rfl)) dSB_appendC_2 ⟨Nat.le_trans (gC_add hg hg2_3) (gC_le hgr_2), Nat.le_trans (gS_add hg hg2_3) (gS_le hgr_2)⟩) hP hD hS hA [0, 1] [] rfl rfl (by decide +kernel) (by decide +kernel) (fun a0_5 H locs hw_4 hP hD hS => ?_)
  have hP : va_P D vwCl (wSB K h0 a0_5 q_1) H := hP.sub [0, 1] rfl
  have hD : va_D A (wSB K h0 a0_5 q_1) := hD.sub [0, 1] (by decide +kernel) rfl
  refine W.widen (k := (gC (phSB os) (phSB q_1))) (n := (gS (phSB os) (phSB q_1))) (gC_add hg hg2_3) (gS_add hg hg2_3) ?_
  have hg : phSB os ≤ phSB q_1 := Nat.le_trans hg hg2_3
  exact bSB_appendC_5 C _ _ h hg hP hD hS (lv_sub hl [0] rfl)
set_option maxRecDepth 100000 in
theorem mSB_appendC (l : Launch) (D : va_G) (K : Nat → ClassId) (sz : Nat) (v1 : Int32) (h0 : Nat) (a0 : Nat → Nat) (o0 : cf_O) (r : cf_O) (h : fSB_appendC v1 o0 = some r) : Met l ySB_appendC (Cond.code ySB_appendC cSB_appendC 2 (Option.some (Jvm.ClassFile.FieldType.object "java/lang/StringBuilder")) :: cfB) ({ frames := 5, cells := (gC (phSB o0) (phSB r)), slots := (gS (phSB o0) (phSB r)), locals := 145 }) (va_Pc [.ref h0, .int v1] (cf_Pre D K sz (wSB K h0 a0 o0))) (va_Qr (fun (_ : Nat → Nat) => True) (fun (u : Nat → Nat) q t => cf_At D (va_A (wSB K h0 a0 o0) sz) (wSB K h0 u r) t ∧ q = h0) (va_A (wSB K h0 a0 o0) sz)) (gC (phSB o0) (phSB r)) (gS (phSB o0) (phSB r)) (va_A (wSB K h0 a0 o0) sz) := by
  refine cf_ofW (y := ySB_appendC) (As := [.ref h0, .int v1]) (WS := wSB K h0 a0 o0) (maxL := 2) (fun A => (va_Qr (fun (_ : Nat → Nat) => True) (fun (u : Nat → Nat) q t => cf_At D A (wSB K h0 u r) t ∧ q = h0) A)) (by decide) (Nat.le_of_ble_eq_true rfl) ?_
  intro p e s m below meth c A ls En hsz hA hP hD hE hS hl
  have C : (dc_C p s m (([.ref h0, .int v1] : List Value).toArray) meth c cSB_appendC 2 (Option.some (Jvm.ClassFile.FieldType.object "java/lang/StringBuilder")) ySB_appendC ∧ cf_E D K A s s.heap ∧ ∀ q, s.heap.size ≤ q → A q) := ⟨En, hE, hA⟩
  refine W.widen (k := gC (phSB o0) (phSB o0)) (n := gS (phSB o0) (phSB o0)) (Nat.zero_le _) (Nat.zero_le _) ?_
  exact bSB_appendC_0 C v1 o0 r h (Nat.le_refl _) hP hD hS hl
def NISc_writeName (n : Nat) : Prop := (∀ (v1 : Int64) (v3 : Int32) (o0 : cf_O) (o1 : cf_O) (r : cf_O), gSc_writeName n 0 v1 v3 o0 o1 = some r → phSB o1 ≤ phSB r)
set_option maxRecDepth 100000 in
theorem nSc_writeName_43 {n : Nat} (ih : NISc_writeName n) (v1 : Int64) (v3 : Int32) (o0 : cf_O) (o1 : cf_O) (r : cf_O) (h : fSc_writeName_43 (gSc_writeName n) v1 v3 o0 o1 = some r) : phSB o1 ≤ phSB r := by
  have hm : phSB o1 ≤ phSB o1 := Nat.le_refl _
  obtain ⟨x_1, ex_1, h⟩ := op_kx h
  exact Nat.le_trans hm ((ih) _ _ _ _ _ h)
set_option maxRecDepth 100000 in
theorem nSc_writeName_42 {n : Nat} (ih : NISc_writeName n) (v1 : Int64) (v3 : Int32) (o0 : cf_O) (o1 : cf_O) (r : cf_O) (h : fSc_writeName_42 (gSc_writeName n) v1 v3 o0 o1 = some r) : phSB o1 ≤ phSB r := by
  have hm : phSB o1 ≤ phSB o1 := Nat.le_refl _
  exact Nat.le_trans hm (nSc_writeName_43 ih _ _ _ _ _ h)
set_option maxRecDepth 100000 in
theorem nSc_writeName_13 {n : Nat} (ih : NISc_writeName n) (v1 : Int64) (v3 : Int32) (o0 : cf_O) (o1 : cf_O) (r : cf_O) (h : fSc_writeName_13 (gSc_writeName n) v1 v3 o0 o1 = some r) : phSB o1 ≤ phSB r := by
  have hm : phSB o1 ≤ phSB o1 := Nat.le_refl _
  rcases (Classical.em (v3 < (0 : Int32))) with c_1 | c_1
  · have h := op_t c_1 h
    obtain rfl := Option.some.inj h
    exact hm
  · have h := op_f c_1 h
    obtain ⟨x_2, ex_2, h⟩ := op_kx h
    obtain ⟨x_3, ex_3, h⟩ := op_kx h
    obtain ⟨x_4, ex_4, h⟩ := op_kx h
    rcases (Classical.em (x_4 = (0 : Int32))) with c_5 | c_5
    · have h := op_t c_5 h
      exact Nat.le_trans hm (nSc_writeName_43 ih _ _ _ _ _ h)
    · have h := op_f c_5 h
      obtain ⟨x_6, ex_6, h⟩ := op_kx h
      obtain ⟨q_7, hq_7, h⟩ := op_b h
      have hm : phSB o1 ≤ phSB q_7 := Nat.le_trans hm (nSB_appendC _ _ _ hq_7)
      exact Nat.le_trans hm (nSc_writeName_42 ih _ _ _ _ _ h)
set_option maxRecDepth 100000 in
theorem nSc_writeName_9 {n : Nat} (ih : NISc_writeName n) (v1 : Int64) (o0 : cf_O) (o1 : cf_O) (r : cf_O) (h : fSc_writeName_9 (gSc_writeName n) v1 o0 o1 = some r) : phSB o1 ≤ phSB r := by
  have hm : phSB o1 ≤ phSB o1 := Nat.le_refl _
  exact Nat.le_trans hm ((ih) _ _ _ _ _ h)
set_option maxRecDepth 100000 in
theorem nSc_writeName_0 {n : Nat} (ih : NISc_writeName n) (v1 : Int64) (o0 : cf_O) (o1 : cf_O) (r : cf_O) (h : fSc_writeName_0 (gSc_writeName n) v1 o0 o1 = some r) : phSB o1 ≤ phSB r := by
  have hm : phSB o1 ≤ phSB o1 := Nat.le_refl _
  obtain ⟨q_1, hq_1, h⟩ := op_b h
  have hm : phSB o1 ≤ phSB q_1 := Nat.le_trans hm (nSB_appendC _ _ _ hq_1)
  exact Nat.le_trans hm (nSc_writeName_9 ih _ _ _ _ h)
theorem niSc_writeName : ∀ n, NISc_writeName n := by
  intro n
  induction n with
  | zero => exact (fun _ _ _ _ r h => by cases (show none = some r from h))
  | succ n ih => exact fun x0 x1 x2 x3 r h => nSc_writeName_13 ih x0 x1 x2 x3 r h
theorem nSc_writeName (v1 : Int64) (o0 : cf_O) (o1 : cf_O) (r : cf_O) (h : fSc_writeName v1 o0 o1 = some r) : phSB o1 ≤ phSB r := nSc_writeName_0 (niSc_writeName cfFU) v1 o0 o1 r h
def IhSc_writeName (p : Program) (l : Launch) (e : Env) (s : State) (m : MethodId) (below : List Frame) (meth : Method) (c : Code) (A : Nat → Prop) (D : va_G) (K : Nat → ClassId) (h0 : Nat) (h1 : Nat) (os : cf_O) (AR : Array Value) (n : Nat) : Prop := (∀ (v1 : Int64) (v3 : Int32) (o0 : cf_O) (o1 : cf_O) (r : cf_O), gSc_writeName n 0 v1 v3 o0 o1 = some r → ∀ {a1 : Nat → Nat} {H : Heap} {locs : List Loc} {ls : Array Slot}, (phSB os ≤ phSB o1) → (va_P D vwCl (wSc K h0 (fun _ => h1) o0 ++ wSB K h1 a1 o1) H) → (va_D A (wSc K h0 (fun _ => h1) o0 ++ wSB K h1 a1 o1)) → va_S A s.heap H locs → lv_has ls 5 [(0, .ref h0), (1, .long v1), (3, .int v3)] → W p l e ({ frames := 6, cells := (gC (phSB os) (phSB r)), slots := (gS (phSB os) (phSB r)), locals := 166 }) s m AR below meth c H locs (gC (phSB os) (phSB o1)) (gS (phSB os) (phSB o1)) (MQ below (va_Qv (fun (_ : Nat → Nat) => True) (fun (u : Nat → Nat) t => cf_At D A (wSc K h0 (fun _ => h1) o0 ++ wSB K h1 u r) t) A) AR s (gC (phSB os) (phSB r)) (gS (phSB os) (phSB r)) A) (F0 m 13 ls []))
set_option maxHeartbeats 4000000 in
set_option maxRecDepth 100000 in
theorem bSc_writeName_43 {p : Program} {l : Launch} {e : Env} {s : State} {m : MethodId} {below : List Frame} {meth : Method} {c : Code} {A : Nat → Prop} {D : va_G} {K : Nat → ClassId} {h0 : Nat} {h1 : Nat} {os : cf_O} {AR : Array Value} (C : (dc_C p s m AR meth c cSc_writeName 5 (Option.none : Option Jvm.ClassFile.FieldType) ySc_writeName ∧ cf_E D K A s s.heap ∧ ∀ q, s.heap.size ≤ q → A q)) {n : Nat} (ih : IhSc_writeName p l e s m below meth c A D K h0 h1 os AR n) (v1 : Int64) (v3 : Int32) (o0 : cf_O) (o1 : cf_O) (r : cf_O) (h : fSc_writeName_43 (gSc_writeName n) v1 v3 o0 o1 = some r) {a1 : Nat → Nat} {H : Heap} {locs : List Loc} {ls : Array Slot} (hg : phSB os ≤ phSB o1) (hP : va_P D vwCl (wSc K h0 (fun _ => h1) o0 ++ wSB K h1 a1 o1) H) (hD : va_D A (wSc K h0 (fun _ => h1) o0 ++ wSB K h1 a1 o1)) (hS : va_S A s.heap H locs) (hl : lv_has ls 5 [(0, .ref h0), (1, .long v1), (3, .int v3)]) : W p l e ({ frames := 6, cells := (gC (phSB os) (phSB r)), slots := (gS (phSB os) (phSB r)), locals := 166 }) s m AR below meth c H locs (gC (phSB os) (phSB o1)) (gS (phSB os) (phSB o1)) (MQ below (va_Qv (fun (_ : Nat → Nat) => True) (fun (u : Nat → Nat) t => cf_At D A (wSc K h0 (fun _ => h1) o0 ++ wSB K h1 u r) t) A) AR s (gC (phSB os) (phSB r)) (gS (phSB os) (phSB r)) A) (F0 m 43 ls []) := by
  obtain ⟨⟨hx, hb, hr, hts, hown, hlocks, hin, hml⟩, hE, hA⟩ := id C
  have hK := hE.k
  obtain ⟨x_1, ex_1⟩ : ∃ y : Int32, y = v3 + (-8) := ⟨_, rfl⟩
  refine lv_iinc (v := x_1) (lv' := [(3, .int x_1), (0, .ref h0), (1, .long v1)]) hx hb dSc_writeName_43 hl (k := 2) rfl (by rw [ex_1]; rfl) (by decide) rfl (fun ls hl => ?_)
  have h := op_ks ex_1 h
  refine lv_goto (tgt := 13) hx hb dSc_writeName_46 (by decide) ?_
  exact (ih) _ _ _ _ _ h hg hP hD hS (lv_sub hl [1, 2, 0] rfl)
set_option maxHeartbeats 4000000 in
set_option maxRecDepth 100000 in
theorem bSc_writeName_42 {p : Program} {l : Launch} {e : Env} {s : State} {m : MethodId} {below : List Frame} {meth : Method} {c : Code} {A : Nat → Prop} {D : va_G} {K : Nat → ClassId} {h0 : Nat} {h1 : Nat} {os : cf_O} {AR : Array Value} (C : (dc_C p s m AR meth c cSc_writeName 5 (Option.none : Option Jvm.ClassFile.FieldType) ySc_writeName ∧ cf_E D K A s s.heap ∧ ∀ q, s.heap.size ≤ q → A q)) {n : Nat} (ih : IhSc_writeName p l e s m below meth c A D K h0 h1 os AR n) (v1 : Int64) (v3 : Int32) (o0 : cf_O) (o1 : cf_O) (r : cf_O) (h : fSc_writeName_42 (gSc_writeName n) v1 v3 o0 o1 = some r) {a1 : Nat → Nat} {H : Heap} {locs : List Loc} {ls : Array Slot} (hg : phSB os ≤ phSB o1) (hP : va_P D vwCl (wSc K h0 (fun _ => h1) o0 ++ wSB K h1 a1 o1) H) (hD : va_D A (wSc K h0 (fun _ => h1) o0 ++ wSB K h1 a1 o1)) (hS : va_S A s.heap H locs) (hl : lv_has ls 5 [(0, .ref h0), (1, .long v1), (3, .int v3)]) : W p l e ({ frames := 6, cells := (gC (phSB os) (phSB r)), slots := (gS (phSB os) (phSB r)), locals := 166 }) s m AR below meth c H locs (gC (phSB os) (phSB o1)) (gS (phSB os) (phSB o1)) (MQ below (va_Qv (fun (_ : Nat → Nat) => True) (fun (u : Nat → Nat) t => cf_At D A (wSc K h0 (fun _ => h1) o0 ++ wSB K h1 u r) t) A) AR s (gC (phSB os) (phSB r)) (gS (phSB os) (phSB r)) A) (F0 m 42 ls [.ref h1]) := by
  obtain ⟨⟨hx, hb, hr, hts, hown, hlocks, hin, hml⟩, hE, hA⟩ := id C
  have hK := hE.k
  refine lv_pop hx hb dSc_writeName_42 rfl ?_
  exact bSc_writeName_43 C ih _ _ _ _ _ h hg hP hD hS (lv_sub hl [0, 1, 2] rfl)
set_option maxHeartbeats 4000000 in
set_option maxRecDepth 100000 in
theorem bSc_writeName_13 {p : Program} {l : Launch} {e : Env} {s : State} {m : MethodId} {below : List Frame} {meth : Method} {c : Code} {A : Nat → Prop} {D : va_G} {K : Nat → ClassId} {h0 : Nat} {h1 : Nat} {os : cf_O} {AR : Array Value} (C : (dc_C p s m AR meth c cSc_writeName 5 (Option.none : Option Jvm.ClassFile.FieldType) ySc_writeName ∧ cf_E D K A s s.heap ∧ ∀ q, s.heap.size ≤ q → A q)) {n : Nat} (ih : IhSc_writeName p l e s m below meth c A D K h0 h1 os AR n) (v1 : Int64) (v3 : Int32) (o0 : cf_O) (o1 : cf_O) (r : cf_O) (h : fSc_writeName_13 (gSc_writeName n) v1 v3 o0 o1 = some r) {a1 : Nat → Nat} {H : Heap} {locs : List Loc} {ls : Array Slot} (hg : phSB os ≤ phSB o1) (hP : va_P D vwCl (wSc K h0 (fun _ => h1) o0 ++ wSB K h1 a1 o1) H) (hD : va_D A (wSc K h0 (fun _ => h1) o0 ++ wSB K h1 a1 o1)) (hS : va_S A s.heap H locs) (hl : lv_has ls 5 [(0, .ref h0), (1, .long v1), (3, .int v3)]) : W p l e ({ frames := 6, cells := (gC (phSB os) (phSB r)), slots := (gS (phSB os) (phSB r)), locals := 166 }) s m AR below meth c H locs (gC (phSB os) (phSB o1)) (gS (phSB os) (phSB o1)) (MQ below (va_Qv (fun (_ : Nat → Nat) => True) (fun (u : Nat → Nat) t => cf_At D A (wSc K h0 (fun _ => h1) o0 ++ wSB K h1 u r) t) A) AR s (gC (phSB os) (phSB r)) (gS (phSB os) (phSB r)) A) (F0 m 13 ls []) := by
  obtain ⟨⟨hx, hb, hr, hts, hown, hlocks, hin, hml⟩, hE, hA⟩ := id C
  have hK := hE.k
  refine lv_iload_n hx hb dSc_writeName_13 rfl (lv_at hl 2 rfl) ?_
  refine lv_if_lt (tgt := 49) hx hb dSc_writeName_14 (by decide) (fun c_1 => ?_) (fun c_1 => ?_)
  · have h := op_t c_1 h
    obtain rfl := Option.some.inj h
    exact dc_vretG a1 hx hb hr hlocks hP hD hS dSc_writeName_49
  · have h := op_f c_1 h
    refine lv_lload_n hx hb dSc_writeName_17 rfl (lv_at hl 1 rfl) ?_
    refine lv_iload_n hx hb dSc_writeName_18 rfl (lv_at hl 2 rfl) ?_
    refine lv_lushr hx hb dSc_writeName_19 rfl ?_
    refine lv_topl (fun x_2 ex_2 => ?_)
    have h := op_ks ex_2 h
    refine lv_ldc2 (v := 255) hx hb hown (hts _ wv_1811) dSc_writeName_20 ?_
    refine lv_land hx hb dSc_writeName_23 ?_
    refine lv_topl (fun x_3 ex_3 => ?_)
    have h := op_ks ex_3 h
    refine lv_l2i hx hb dSc_writeName_24 rfl ?_
    refine lv_topi (fun x_4 ex_4 => ?_)
    have h := op_ks ex_4 h
    refine lv_istore (lv' := [(4, .int x_4), (0, .ref h0), (1, .long v1), (3, .int v3)]) hx hb dSc_writeName_25 hl (by decide) rfl (fun ls hl => ?_)
    refine lv_iload hx hb dSc_writeName_27 (lv_at hl 0 rfl) ?_
    refine lv_if_eq (tgt := 43) hx hb dSc_writeName_29 (by decide) (fun c_5 => ?_) (fun c_5 => ?_)
    · have h := op_t c_5 h
      exact bSc_writeName_43 C ih _ _ _ _ _ h hg hP hD hS (lv_sub hl [1, 2, 3] rfl)
    · have h := op_f c_5 h
      refine lv_aload_n hx hb dSc_writeName_32 rfl (lv_at hl 1 rfl) ?_
      refine va_get (D := D) (ci := 10) (v := .ref h1) (C := RSc) (T := TSc) (N := 2) hx hb hts inSc hown hK hP 0 rfl rfl 1 (by decide) (hts _ wv_469) (fun _ h9 => h9) rfl dSc_writeName_33 ?_
      refine lv_iload hx hb dSc_writeName_36 (lv_at hl 0 rfl) ?_
      refine lv_i2c hx hb dSc_writeName_38 rfl ?_
      refine lv_topi (fun x_6 ex_6 => ?_)
      have h := op_ks ex_6 h
      obtain ⟨q_7, hq_7, h⟩ := op_b h
      have hgr_8 : phSB q_7 ≤ phSB r := nSc_writeName_42 (niSc_writeName n) _ _ _ _ _ h
      have hg2_9 : phSB o1 ≤ phSB q_7 := nSB_appendC _ _ _ hq_7
      refine cf_callR (wc := wSB K h1 a1 o1) (wr := wSc K h0 (fun _ => h1) o0) (va_runV (As := [.int x_6]) (rest := []) ⟨hx, hb, hml, hown, hts⟩ (mSB_appendC l D K _ x_6 h1 a1 o1 _ hq_7) (cwV 1 hts (cf_GV wv_1798 wv_1799 wv_1800 wv_167 wv_1801) rfl rfl rfl (by decide +kernel) ⟨Nat.le_of_ble_eq_true rfl, Nat.le_of_ble_eq_true rfl⟩) (cf_preV (wc := wSB K h1 a1 o1) hE hP hD hS hA rfl 1 rfl [1, 2] rfl (by decide +kernel)) rfl rfl hl.1 rfl (lv_room (Nat.le_of_ble_eq_true rfl)) dSc_writeName_39 ⟨Nat.le_trans (gC_add hg hg2_9) (gC_le hgr_8), Nat.le_trans (gS_add hg hg2_9) (gS_le hgr_8)⟩) hP hD hS hA [1, 2] [0] rfl rfl (by decide +kernel) (by decide +kernel) (fun a1_11 H locs hw_10 hP hD hS => ?_)
      have hP : va_P D vwCl (wSc K h0 (fun _ => h1) o0 ++ wSB K h1 a1_11 q_7) H := hP.sub [0, 1, 2] rfl
      have hD : va_D A (wSc K h0 (fun _ => h1) o0 ++ wSB K h1 a1_11 q_7) := hD.sub [0, 1, 2] (by decide +kernel) rfl
      refine W.widen (k := (gC (phSB os) (phSB q_7))) (n := (gS (phSB os) (phSB q_7))) (gC_add hg hg2_9) (gS_add hg hg2_9) ?_
      have hg : phSB os ≤ phSB q_7 := Nat.le_trans hg hg2_9
      exact bSc_writeName_42 C ih _ _ _ _ _ h hg hP hD hS (lv_sub hl [1, 2, 3] rfl)
set_option maxHeartbeats 4000000 in
set_option maxRecDepth 100000 in
theorem bSc_writeName_9 {p : Program} {l : Launch} {e : Env} {s : State} {m : MethodId} {below : List Frame} {meth : Method} {c : Code} {A : Nat → Prop} {D : va_G} {K : Nat → ClassId} {h0 : Nat} {h1 : Nat} {os : cf_O} {AR : Array Value} (C : (dc_C p s m AR meth c cSc_writeName 5 (Option.none : Option Jvm.ClassFile.FieldType) ySc_writeName ∧ cf_E D K A s s.heap ∧ ∀ q, s.heap.size ≤ q → A q)) {n : Nat} (ih : IhSc_writeName p l e s m below meth c A D K h0 h1 os AR n) (v1 : Int64) (o0 : cf_O) (o1 : cf_O) (r : cf_O) (h : fSc_writeName_9 (gSc_writeName n) v1 o0 o1 = some r) {a1 : Nat → Nat} {H : Heap} {locs : List Loc} {ls : Array Slot} (hg : phSB os ≤ phSB o1) (hP : va_P D vwCl (wSc K h0 (fun _ => h1) o0 ++ wSB K h1 a1 o1) H) (hD : va_D A (wSc K h0 (fun _ => h1) o0 ++ wSB K h1 a1 o1)) (hS : va_S A s.heap H locs) (hl : lv_has ls 5 [(0, .ref h0), (1, .long v1)]) : W p l e ({ frames := 6, cells := (gC (phSB os) (phSB r)), slots := (gS (phSB os) (phSB r)), locals := 166 }) s m AR below meth c H locs (gC (phSB os) (phSB o1)) (gS (phSB os) (phSB o1)) (MQ below (va_Qv (fun (_ : Nat → Nat) => True) (fun (u : Nat → Nat) t => cf_At D A (wSc K h0 (fun _ => h1) o0 ++ wSB K h1 u r) t) A) AR s (gC (phSB os) (phSB r)) (gS (phSB os) (phSB r)) A) (F0 m 9 ls [.ref h1]) := by
  obtain ⟨⟨hx, hb, hr, hts, hown, hlocks, hin, hml⟩, hE, hA⟩ := id C
  have hK := hE.k
  refine lv_pop hx hb dSc_writeName_9 rfl ?_
  refine lv_bipush (v := 56) hx hb dSc_writeName_10 (by decide) ?_
  refine lv_istore_n (lv' := [(3, .int 56), (0, .ref h0), (1, .long v1)]) hx hb dSc_writeName_12 rfl hl (by decide) rfl (fun ls hl => ?_)
  exact (ih) _ _ _ _ _ h hg hP hD hS (lv_sub hl [1, 2, 0] rfl)
set_option maxHeartbeats 4000000 in
set_option maxRecDepth 100000 in
theorem bSc_writeName_0 {p : Program} {l : Launch} {e : Env} {s : State} {m : MethodId} {below : List Frame} {meth : Method} {c : Code} {A : Nat → Prop} {D : va_G} {K : Nat → ClassId} {h0 : Nat} {h1 : Nat} {os : cf_O} {AR : Array Value} (C : (dc_C p s m AR meth c cSc_writeName 5 (Option.none : Option Jvm.ClassFile.FieldType) ySc_writeName ∧ cf_E D K A s s.heap ∧ ∀ q, s.heap.size ≤ q → A q)) {n : Nat} (ih : IhSc_writeName p l e s m below meth c A D K h0 h1 os AR n) (v1 : Int64) (o0 : cf_O) (o1 : cf_O) (r : cf_O) (h : fSc_writeName_0 (gSc_writeName n) v1 o0 o1 = some r) {a1 : Nat → Nat} {H : Heap} {locs : List Loc} {ls : Array Slot} (hg : phSB os ≤ phSB o1) (hP : va_P D vwCl (wSc K h0 (fun _ => h1) o0 ++ wSB K h1 a1 o1) H) (hD : va_D A (wSc K h0 (fun _ => h1) o0 ++ wSB K h1 a1 o1)) (hS : va_S A s.heap H locs) (hl : lv_has ls 5 [(0, .ref h0), (1, .long v1)]) : W p l e ({ frames := 6, cells := (gC (phSB os) (phSB r)), slots := (gS (phSB os) (phSB r)), locals := 166 }) s m AR below meth c H locs (gC (phSB os) (phSB o1)) (gS (phSB os) (phSB o1)) (MQ below (va_Qv (fun (_ : Nat → Nat) => True) (fun (u : Nat → Nat) t => cf_At D A (wSc K h0 (fun _ => h1) o0 ++ wSB K h1 u r) t) A) AR s (gC (phSB os) (phSB r)) (gS (phSB os) (phSB r)) A) (F0 m 0 ls []) := by
  obtain ⟨⟨hx, hb, hr, hts, hown, hlocks, hin, hml⟩, hE, hA⟩ := id C
  have hK := hE.k
  refine lv_aload_n hx hb dSc_writeName_0 rfl (lv_at hl 0 rfl) ?_
  refine va_get (D := D) (ci := 10) (v := .ref h1) (C := RSc) (T := TSc) (N := 2) hx hb hts inSc hown hK hP 0 rfl rfl 1 (by decide) (hts _ wv_469) (fun _ h9 => h9) rfl dSc_writeName_1 ?_
  refine lv_bipush (v := 32) hx hb dSc_writeName_4 (by decide) ?_
  obtain ⟨q_1, hq_1, h⟩ := op_b h
  have hgr_2 : phSB q_1 ≤ phSB r := nSc_writeName_9 (niSc_writeName n) _ _ _ _ h
  have hg2_3 : phSB o1 ≤ phSB q_1 := nSB_appendC _ _ _ hq_1
  refine cf_callR (wc := wSB K h1 a1 o1) (wr := wSc K h0 (fun _ => h1) o0) (va_runV (As := [.int 32]) (rest := []) ⟨hx, hb, hml, hown, hts⟩ (mSB_appendC l D K _ 32 h1 a1 o1 _ hq_1) (cwV 1 hts (cf_GV wv_1798 wv_1799 wv_1800 wv_167 wv_1801) rfl rfl rfl (by decide +kernel) ⟨Nat.le_of_ble_eq_true rfl, Nat.le_of_ble_eq_true rfl⟩) (cf_preV (wc := wSB K h1 a1 o1) hE hP hD hS hA rfl 1 rfl [1, 2] rfl (by decide +kernel)) rfl rfl hl.1 rfl (lv_room (Nat.le_of_ble_eq_true rfl)) dSc_writeName_6 ⟨Nat.le_trans (gC_add hg hg2_3) (gC_le hgr_2), Nat.le_trans (gS_add hg hg2_3) (gS_le hgr_2)⟩) hP hD hS hA [1, 2] [0] rfl rfl (by decide +kernel) (by decide +kernel) (fun a1_5 H locs hw_4 hP hD hS => ?_)
  have hP : va_P D vwCl (wSc K h0 (fun _ => h1) o0 ++ wSB K h1 a1_5 q_1) H := hP.sub [0, 1, 2] rfl
  have hD : va_D A (wSc K h0 (fun _ => h1) o0 ++ wSB K h1 a1_5 q_1) := hD.sub [0, 1, 2] (by decide +kernel) rfl
  refine W.widen (k := (gC (phSB os) (phSB q_1))) (n := (gS (phSB os) (phSB q_1))) (gC_add hg hg2_3) (gS_add hg hg2_3) ?_
  have hg : phSB os ≤ phSB q_1 := Nat.le_trans hg hg2_3
  exact bSc_writeName_9 C ih _ _ _ _ h hg hP hD hS (lv_sub hl [0, 1] rfl)
theorem iSc_writeName {p : Program} {l : Launch} {e : Env} {s : State} {m : MethodId} {below : List Frame} {meth : Method} {c : Code} {A : Nat → Prop} {D : va_G} {K : Nat → ClassId} {h0 : Nat} {h1 : Nat} {os : cf_O} {AR : Array Value} (C : (dc_C p s m AR meth c cSc_writeName 5 (Option.none : Option Jvm.ClassFile.FieldType) ySc_writeName ∧ cf_E D K A s s.heap ∧ ∀ q, s.heap.size ≤ q → A q)) : ∀ n, IhSc_writeName p l e s m below meth c A D K h0 h1 os AR n := by
  intro n
  induction n with
  | zero => exact (fun _ _ _ _ r h => by cases (show none = some r from h))
  | succ n ih => exact fun x0 x1 x2 x3 r h _ _ _ _ hg hP hD hS hl => bSc_writeName_13 C ih x0 x1 x2 x3 r h hg hP hD hS hl
set_option maxRecDepth 100000 in
theorem mSc_writeName (l : Launch) (D : va_G) (K : Nat → ClassId) (sz : Nat) (v1 : Int64) (h0 : Nat) (h1 : Nat) (a1 : Nat → Nat) (o0 : cf_O) (o1 : cf_O) (r : cf_O) (h : fSc_writeName v1 o0 o1 = some r) : Met l ySc_writeName (Cond.code ySc_writeName cSc_writeName 5 (Option.none : Option Jvm.ClassFile.FieldType) :: cfB) ({ frames := 6, cells := (gC (phSB o1) (phSB r)), slots := (gS (phSB o1) (phSB r)), locals := 166 }) (va_Pc [.ref h0, .long v1] (cf_Pre D K sz (wSc K h0 (fun _ => h1) o0 ++ wSB K h1 a1 o1))) (va_Qv (fun (_ : Nat → Nat) => True) (fun (u : Nat → Nat) t => cf_At D (va_A (wSc K h0 (fun _ => h1) o0 ++ wSB K h1 a1 o1) sz) (wSc K h0 (fun _ => h1) o0 ++ wSB K h1 u r) t) (va_A (wSc K h0 (fun _ => h1) o0 ++ wSB K h1 a1 o1) sz)) (gC (phSB o1) (phSB r)) (gS (phSB o1) (phSB r)) (va_A (wSc K h0 (fun _ => h1) o0 ++ wSB K h1 a1 o1) sz) := by
  refine cf_ofW (y := ySc_writeName) (As := [.ref h0, .long v1]) (WS := wSc K h0 (fun _ => h1) o0 ++ wSB K h1 a1 o1) (maxL := 5) (fun A => (va_Qv (fun (_ : Nat → Nat) => True) (fun (u : Nat → Nat) t => cf_At D A (wSc K h0 (fun _ => h1) o0 ++ wSB K h1 u r) t) A)) (by decide) (Nat.le_of_ble_eq_true rfl) ?_
  intro p e s m below meth c A ls En hsz hA hP hD hE hS hl
  have C : (dc_C p s m (([.ref h0, .long v1] : List Value).toArray) meth c cSc_writeName 5 (Option.none : Option Jvm.ClassFile.FieldType) ySc_writeName ∧ cf_E D K A s s.heap ∧ ∀ q, s.heap.size ≤ q → A q) := ⟨En, hE, hA⟩
  refine W.widen (k := gC (phSB o1) (phSB o1)) (n := gS (phSB o1) (phSB o1)) (Nat.zero_le _) (Nat.zero_le _) ?_
  exact bSc_writeName_0 C (iSc_writeName C cfFU) v1 o0 o1 r h (Nat.le_refl _) hP hD hS hl
set_option maxHeartbeats 4000000 in
set_option maxRecDepth 100000 in
theorem bJString_coder__S7_14 {p : Program} {l : Launch} {e : Env} {s : State} {m : MethodId} {below : List Frame} {meth : Method} {c : Code} {A : Nat → Prop} {D : va_G} {K : Nat → ClassId} {AR : Array Value} (C : (dc_C p s m AR meth c cJString_coder_ 1 (Option.some Jvm.ClassFile.FieldType.byte) yJString_coder_ ∧ cf_E D K A s s.heap ∧ ∀ q, s.heap.size ≤ q → A q)) (s0 : Int32) (r : Int32) (h : fJString_coder__S7_14 s0 = some r) {H : Heap} {locs : List Loc} {ls : Array Slot} (hP : va_P D vwCl ([]) H) (hD : va_D A ([])) (hS : va_S A s.heap H locs) (hl : lv_has ls 1 []) : W p l e ({ frames := 0, cells := 0, slots := 0, locals := 0 }) s m AR below meth c H locs 0 0 (MQ below (va_Qi (fun (x : Int32) (_ : Unit) => x = r) (fun (_ : Unit) t => cf_At D A ([]) t) A) AR s 0 0 A) (F0 m 14 ls [.int s0]) := by
  obtain ⟨⟨hx, hb, hr, hts, hown, hlocks, hin, hml⟩, hE, hA⟩ := id C
  have hK := hE.k
  obtain ⟨hz_1, h⟩ := op_w h
  obtain rfl := Option.some.inj h
  exact dc_zretn hx hb hr (op_nb hz_1) hlocks rfl hP hD hS dJString_coder__14
set_option maxHeartbeats 4000000 in
set_option maxRecDepth 100000 in
theorem bJString_coder__S7_0 {p : Program} {l : Launch} {e : Env} {s : State} {m : MethodId} {below : List Frame} {meth : Method} {c : Code} {A : Nat → Prop} {D : va_G} {K : Nat → ClassId} {AR : Array Value} (C : (dc_C p s m AR meth c cJString_coder_ 1 (Option.some Jvm.ClassFile.FieldType.byte) yJString_coder_ ∧ cf_E D K A s s.heap ∧ ∀ q, s.heap.size ≤ q → A q)) (r : Int32) (h : fJString_coder__S7_0 = some r) {H : Heap} {locs : List Loc} {ls : Array Slot} (hP : va_P D vwCl ([]) H) (hD : va_D A ([])) (hS : va_S A s.heap H locs) (hl : lv_has ls 1 [(0, .ref (K 107))]) : W p l e ({ frames := 0, cells := 0, slots := 0, locals := 0 }) s m AR below meth c H locs 0 0 (MQ below (va_Qi (fun (x : Int32) (_ : Unit) => x = r) (fun (_ : Unit) t => cf_At D A ([]) t) A) AR s 0 0 A) (F0 m 0 ls []) := by
  obtain ⟨⟨hx, hb, hr, hts, hown, hlocks, hin, hml⟩, hE, hA⟩ := id C
  have hK := hE.k
  refine va_gets hx hb hE.2.2.2.2.2.2.1 hS hown (hts _ wv_764) (fun _ h9 => h9) dJString_coder__0 ?_
  refine lv_if_eq (tgt := 13) hx hb dJString_coder__3 (by decide) (fun c_1 => absurd c_1 (by decide)) (fun _ => ?_)
  refine lv_aload_n hx hb dJString_coder__6 rfl (lv_at hl 0 rfl) ?_
  refine vk_getf hx hb (hE.s 7 rfl).2.2.1 hS hown (hts _ wv_1736) (fun _ h9 => h9) dJString_coder__7 ?_
  refine lv_goto (tgt := 14) hx hb dJString_coder__10 (by decide) ?_
  exact bJString_coder__S7_14 C _ _ h hP hD hS (lv_sub hl [] rfl)
set_option maxRecDepth 100000 in
theorem mJString_coder__S7 (l : Launch) (D : va_G) (K : Nat → ClassId) (sz : Nat) (r : Int32) (h : fJString_coder__S7 = some r) : Met l yJString_coder_ (Cond.code yJString_coder_ cJString_coder_ 1 (Option.some Jvm.ClassFile.FieldType.byte) :: cfB) ({ frames := 0, cells := 0, slots := 0, locals := 0 }) (va_Pc [.ref (K 107)] (cf_Pre D K sz ([]))) (va_Qi (fun (x : Int32) (_ : Unit) => x = r) (fun (_ : Unit) t => cf_At D (va_A ([]) sz) ([]) t) (va_A ([]) sz)) 0 0 (va_A ([]) sz) := by
  refine cf_ofW (y := yJString_coder_) (As := [.ref (K 107)]) (WS := []) (maxL := 1) (fun A => (va_Qi (fun (x : Int32) (_ : Unit) => x = r) (fun (_ : Unit) t => cf_At D A ([]) t) A)) (by decide) (Nat.le_of_ble_eq_true rfl) ?_
  intro p e s m below meth c A ls En hsz hA hP hD hE hS hl
  have C : (dc_C p s m (([.ref (K 107)] : List Value).toArray) meth c cJString_coder_ 1 (Option.some Jvm.ClassFile.FieldType.byte) yJString_coder_ ∧ cf_E D K A s s.heap ∧ ∀ q, s.heap.size ≤ q → A q) := ⟨En, hE, hA⟩
  exact bJString_coder__S7_0 C r h hP hD hS hl
set_option maxHeartbeats 4000000 in
set_option maxRecDepth 100000 in
theorem bJString_length__S7_0 {p : Program} {l : Launch} {e : Env} {s : State} {m : MethodId} {below : List Frame} {meth : Method} {c : Code} {A : Nat → Prop} {D : va_G} {K : Nat → ClassId} {AR : Array Value} (C : (dc_C p s m AR meth c cJString_length_ 1 (Option.some Jvm.ClassFile.FieldType.int) yJString_length_ ∧ cf_E D K A s s.heap ∧ ∀ q, s.heap.size ≤ q → A q)) (r : Int32) (h : fJString_length__S7_0 = some r) {H : Heap} {locs : List Loc} {ls : Array Slot} (hP : va_P D vwCl ([]) H) (hD : va_D A ([])) (hS : va_S A s.heap H locs) (hl : lv_has ls 1 [(0, .ref (K 107))]) : W p l e ({ frames := 1, cells := 0, slots := 0, locals := 20 }) s m AR below meth c H locs 0 0 (MQ below (va_Qi (fun (x : Int32) (_ : Unit) => x = r) (fun (_ : Unit) t => cf_At D A ([]) t) A) AR s 0 0 A) (F0 m 0 ls []) := by
  obtain ⟨⟨hx, hb, hr, hts, hown, hlocks, hin, hml⟩, hE, hA⟩ := id C
  have hK := hE.k
  refine lv_aload_n hx hb dJString_length__0 rfl (lv_at hl 0 rfl) ?_
  refine vk_getf hx hb (hE.s 7 rfl).2.2.2.1 hS hown (hts _ wv_1735) (fun _ h9 => h9) dJString_length__1 ?_
  refine va_tlen (v := 9) hx hb (hE.s 7 rfl).2.2.2.2 hS rfl dJString_length__4 ?_
  refine lv_aload_n hx hb dJString_length__5 rfl (lv_at hl 0 rfl) ?_
  obtain ⟨q_1, hq_1, h⟩ := op_b h
  refine cf_calli (wc := []) (wr := []) (va_runV (As := []) (rest := [.int 9]) ⟨hx, hb, hml, hown, hts⟩ (mJString_coder__S7 l D K _ _ hq_1) (cwV 0 hts (cf_GV wv_760 wv_761 wv_762 wv_168 wv_763) rfl rfl rfl (by decide +kernel) ⟨Nat.le_of_ble_eq_true rfl, Nat.le_of_ble_eq_true rfl⟩) (cf_preO (wc := []) (hE.s 7 rfl).2.1 hE hP hD hS hA [] rfl (by decide +kernel)) rfl rfl hl.1 rfl (lv_room (Nat.le_of_ble_eq_true rfl)) dJString_length__6 ⟨Nat.le_of_ble_eq_true rfl, Nat.le_of_ble_eq_true rfl⟩) hP hD hS hA [] [] rfl rfl (by decide +kernel) (by decide +kernel) (fun r_2 _ H locs hw_3 hP hD hS => ?_)
  subst r_2
  have hP : va_P D vwCl ([]) H := hP.sub [] rfl
  have hD : va_D A ([]) := hD.sub [] (by decide +kernel) rfl
  refine lv_ishr hx hb dJString_length__9 ?_
  refine lv_topi (fun x_4 ex_4 => ?_)
  have h := op_ks ex_4 h
  obtain rfl := Option.some.inj h
  exact dc_iret hx hb hr hlocks rfl hP hD hS dJString_length__10
set_option maxRecDepth 100000 in
theorem mJString_length__S7 (l : Launch) (D : va_G) (K : Nat → ClassId) (sz : Nat) (r : Int32) (h : fJString_length__S7 = some r) : Met l yJString_length_ (Cond.code yJString_length_ cJString_length_ 1 (Option.some Jvm.ClassFile.FieldType.int) :: cfB) ({ frames := 1, cells := 0, slots := 0, locals := 20 }) (va_Pc [.ref (K 107)] (cf_Pre D K sz ([]))) (va_Qi (fun (x : Int32) (_ : Unit) => x = r) (fun (_ : Unit) t => cf_At D (va_A ([]) sz) ([]) t) (va_A ([]) sz)) 0 0 (va_A ([]) sz) := by
  refine cf_ofW (y := yJString_length_) (As := [.ref (K 107)]) (WS := []) (maxL := 1) (fun A => (va_Qi (fun (x : Int32) (_ : Unit) => x = r) (fun (_ : Unit) t => cf_At D A ([]) t) A)) (by decide) (Nat.le_of_ble_eq_true rfl) ?_
  intro p e s m below meth c A ls En hsz hA hP hD hE hS hl
  have C : (dc_C p s m (([.ref (K 107)] : List Value).toArray) meth c cJString_length_ 1 (Option.some Jvm.ClassFile.FieldType.int) yJString_length_ ∧ cf_E D K A s s.heap ∧ ∀ q, s.heap.size ≤ q → A q) := ⟨En, hE, hA⟩
  exact bJString_length__S7_0 C r h hP hD hS hl
set_option maxHeartbeats 4000000 in
set_option maxRecDepth 100000 in
theorem bAS_inflateIfNeededFor_S7_21 {p : Program} {l : Launch} {e : Env} {s : State} {m : MethodId} {below : List Frame} {meth : Method} {c : Code} {A : Nat → Prop} {D : va_G} {K : Nat → ClassId} {h0 : Nat} {a0 : Nat → Nat} {AR : Array Value} (C : (dc_C p s m AR meth c cAS_inflateIfNeededFor 2 (Option.none : Option Jvm.ClassFile.FieldType) yAS_inflateIfNeededFor ∧ cf_E D K A s s.heap ∧ ∀ q, s.heap.size ≤ q → A q)) (o0 : cf_O) (r : Unit) (h : fAS_inflateIfNeededFor_S7_21 o0 = some r) {H : Heap} {locs : List Loc} {ls : Array Slot} (hP : va_P D vwCl (wSB K h0 a0 o0) H) (hD : va_D A (wSB K h0 a0 o0)) (hS : va_S A s.heap H locs) (hl : lv_has ls 2 []) : W p l e ({ frames := 1, cells := 0, slots := 0, locals := 20 }) s m AR below meth c H locs 0 0 (MQ below (va_Qv (fun (_ : Unit) => True) (fun (_ : Unit) t => cf_At D A (wSB K h0 a0 o0) t) A) AR s 0 0 A) (F0 m 21 ls []) := by
  obtain ⟨⟨hx, hb, hr, hts, hown, hlocks, hin, hml⟩, hE, hA⟩ := id C
  have hK := hE.k
  obtain rfl := Option.some.inj h
  exact dc_vret hx hb hr hlocks rfl hP hD hS dAS_inflateIfNeededFor_21
set_option maxHeartbeats 4000000 in
set_option maxRecDepth 100000 in
theorem bAS_inflateIfNeededFor_S7_0 {p : Program} {l : Launch} {e : Env} {s : State} {m : MethodId} {below : List Frame} {meth : Method} {c : Code} {A : Nat → Prop} {D : va_G} {K : Nat → ClassId} {h0 : Nat} {a0 : Nat → Nat} {AR : Array Value} (C : (dc_C p s m AR meth c cAS_inflateIfNeededFor 2 (Option.none : Option Jvm.ClassFile.FieldType) yAS_inflateIfNeededFor ∧ cf_E D K A s s.heap ∧ ∀ q, s.heap.size ≤ q → A q)) (o0 : cf_O) (r : Unit) (h : fAS_inflateIfNeededFor_S7_0 o0 = some r) {H : Heap} {locs : List Loc} {ls : Array Slot} (hP : va_P D vwCl (wSB K h0 a0 o0) H) (hD : va_D A (wSB K h0 a0 o0)) (hS : va_S A s.heap H locs) (hl : lv_has ls 2 [(0, .ref h0), (1, .ref (K 107))]) : W p l e ({ frames := 1, cells := 0, slots := 0, locals := 20 }) s m AR below meth c H locs 0 0 (MQ below (va_Qv (fun (_ : Unit) => True) (fun (_ : Unit) t => cf_At D A (wSB K h0 a0 o0) t) A) AR s 0 0 A) (F0 m 0 ls []) := by
  obtain ⟨⟨hx, hb, hr, hts, hown, hlocks, hin, hml⟩, hE, hA⟩ := id C
  have hK := hE.k
  refine va_gets hx hb hE.2.2.2.2.2.2.1 hS hown (hts _ wv_444) (fun _ h9 => h9) dAS_inflateIfNeededFor_0 ?_
  refine lv_if_eq (tgt := 21) hx hb dAS_inflateIfNeededFor_3 (by decide) (fun c_1 => absurd c_1 (by decide)) (fun _ => ?_)
  refine lv_aload_n hx hb dAS_inflateIfNeededFor_6 rfl (lv_at hl 0 rfl) ?_
  refine va_get (D := D) (ci := 13) (v := .int (o0.1 1)) (C := RSB) (T := TSB) (N := 4) hx hb hts inSB hown hK hP 0 rfl rfl 1 (by decide) (hts _ wv_454) (fun _ h9 => h9) rfl dAS_inflateIfNeededFor_7 ?_
  refine lv_aload_n hx hb dAS_inflateIfNeededFor_10 rfl (lv_at hl 1 rfl) ?_
  obtain ⟨q_2, hq_2, h⟩ := op_b h
  refine cf_calli (wc := []) (wr := wSB K h0 a0 o0) (va_runV (As := []) (rest := [.int (o0.1 1)]) ⟨hx, hb, hml, hown, hts⟩ (mJString_coder__S7 l D K _ _ hq_2) (cwV 0 hts (cf_GV wv_1619 wv_761 wv_762 wv_168 wv_763) rfl rfl rfl (by decide +kernel) ⟨Nat.le_of_ble_eq_true rfl, Nat.le_of_ble_eq_true rfl⟩) (cf_preO (wc := []) (hE.s 7 rfl).2.1 hE hP hD hS hA [] rfl (by decide +kernel)) rfl rfl hl.1 rfl (lv_room (Nat.le_of_ble_eq_true rfl)) dAS_inflateIfNeededFor_11 ⟨Nat.le_of_ble_eq_true rfl, Nat.le_of_ble_eq_true rfl⟩) hP hD hS hA [] [0, 1] rfl rfl (by decide +kernel) (by decide +kernel) (fun r_3 _ H locs hw_4 hP hD hS => ?_)
  subst r_3
  have hP : va_P D vwCl (wSB K h0 a0 o0) H := hP.sub [0, 1] rfl
  have hD : va_D A (wSB K h0 a0 o0) := hD.sub [0, 1] (by decide +kernel) rfl
  refine lv_icmp_eq (tgt := 21) hx hb dAS_inflateIfNeededFor_14 (by decide) (fun c_5 => ?_) (fun c_5 => ?_)
  · have h := op_t c_5 h
    exact bAS_inflateIfNeededFor_S7_21 C _ _ h hP hD hS (lv_sub hl [] rfl)
  · have h := op_f c_5 h
    refine lv_aload_n hx hb dAS_inflateIfNeededFor_17 rfl (lv_at hl 0 rfl) ?_
    cases h
set_option maxRecDepth 100000 in
theorem mAS_inflateIfNeededFor_S7 (l : Launch) (D : va_G) (K : Nat → ClassId) (sz : Nat) (h0 : Nat) (a0 : Nat → Nat) (o0 : cf_O) (r : Unit) (h : fAS_inflateIfNeededFor_S7 o0 = some r) : Met l yAS_inflateIfNeededFor (Cond.code yAS_inflateIfNeededFor cAS_inflateIfNeededFor 2 (Option.none : Option Jvm.ClassFile.FieldType) :: cfB) ({ frames := 1, cells := 0, slots := 0, locals := 20 }) (va_Pc [.ref h0, .ref (K 107)] (cf_Pre D K sz (wSB K h0 a0 o0))) (va_Qv (fun (_ : Unit) => True) (fun (_ : Unit) t => cf_At D (va_A (wSB K h0 a0 o0) sz) (wSB K h0 a0 o0) t) (va_A (wSB K h0 a0 o0) sz)) 0 0 (va_A (wSB K h0 a0 o0) sz) := by
  refine cf_ofW (y := yAS_inflateIfNeededFor) (As := [.ref h0, .ref (K 107)]) (WS := wSB K h0 a0 o0) (maxL := 2) (fun A => (va_Qv (fun (_ : Unit) => True) (fun (_ : Unit) t => cf_At D A (wSB K h0 a0 o0) t) A)) (by decide) (Nat.le_of_ble_eq_true rfl) ?_
  intro p e s m below meth c A ls En hsz hA hP hD hE hS hl
  have C : (dc_C p s m (([.ref h0, .ref (K 107)] : List Value).toArray) meth c cAS_inflateIfNeededFor 2 (Option.none : Option Jvm.ClassFile.FieldType) yAS_inflateIfNeededFor ∧ cf_E D K A s s.heap ∧ ∀ q, s.heap.size ≤ q → A q) := ⟨En, hE, hA⟩
  exact bAS_inflateIfNeededFor_S7_0 C o0 r h hP hD hS hl
set_option maxRecDepth 100000 in
theorem nJString_getBytes_ABIB_S7_SB0_0 (v2 : Int32) (v3 : Int32) (o0 : cf_O) (r : cf_O) (h : fJString_getBytes_ABIB_S7_SB0_0 v2 v3 o0 = some r) : phSB o0 ≤ phSB r := by
  have hm : phSB o0 ≤ phSB o0 := Nat.le_refl _
  obtain ⟨q_1, hq_1, h⟩ := op_b h
  rcases (Classical.em (q_1 = v3)).symm with c_4 | c_4
  · have h := op_f c_4 h
    cases h
  · have h := op_t c_4 h
    obtain ⟨x_5, ex_5, h⟩ := op_kx h
    obtain ⟨hi_6, h⟩ := op_n h
    obtain ⟨o_7, eo_7, h⟩ := op_kx h
    have hm : phSB o0 ≤ phSB o_7 := by rw [eo_7]; exact hm
    obtain rfl := Option.some.inj h
    exact hm
theorem nJString_getBytes_ABIB_S7_SB0 (v2 : Int32) (v3 : Int32) (o0 : cf_O) (r : cf_O) (h : fJString_getBytes_ABIB_S7_SB0 v2 v3 o0 = some r) : phSB o0 ≤ phSB r := nJString_getBytes_ABIB_S7_SB0_0  v2 v3 o0 r h
set_option maxHeartbeats 4000000 in
set_option maxRecDepth 100000 in
theorem bJString_getBytes_ABIB_S7_SB0_0 {p : Program} {l : Launch} {e : Env} {s : State} {m : MethodId} {below : List Frame} {meth : Method} {c : Code} {A : Nat → Prop} {D : va_G} {K : Nat → ClassId} {h0 : Nat} {a0 : Nat → Nat} {AR : Array Value} (C : (dc_C p s m AR meth c cJString_getBytes_ABIB 4 (Option.none : Option Jvm.ClassFile.FieldType) yJString_getBytes_ABIB ∧ cf_E D K A s s.heap ∧ ∀ q, s.heap.size ≤ q → A q)) (v2 : Int32) (v3 : Int32) (o0 : cf_O) (r : cf_O) (h : fJString_getBytes_ABIB_S7_SB0_0 v2 v3 o0 = some r) {H : Heap} {locs : List Loc} {ls : Array Slot} (hP : va_P D vwCl (wSB K h0 a0 o0) H) (hD : va_D A (wSB K h0 a0 o0)) (hS : va_S A s.heap H locs) (hl : lv_has ls 4 [(0, .ref (K 107)), (1, .ref (a0 0)), (2, .int v2), (3, .int v3)]) : W p l e ({ frames := 1, cells := 0, slots := 0, locals := 60 }) s m AR below meth c H locs 0 0 (MQ below (va_Qv (fun (_ : Unit) => True) (fun (_ : Unit) t => cf_At D A (wSB K h0 a0 r) t) A) AR s 0 0 A) (F0 m 0 ls []) := by
  obtain ⟨⟨hx, hb, hr, hts, hown, hlocks, hin, hml⟩, hE, hA⟩ := id C
  have hK := hE.k
  refine lv_aload_n hx hb dJString_getBytes_ABIB_0 rfl (lv_at hl 0 rfl) ?_
  obtain ⟨q_1, hq_1, h⟩ := op_b h
  refine cf_calli (wc := []) (wr := wSB K h0 a0 o0) (va_runV (As := []) (rest := []) ⟨hx, hb, hml, hown, hts⟩ (mJString_coder__S7 l D K _ _ hq_1) (cwV 0 hts (cf_GV wv_760 wv_761 wv_762 wv_168 wv_763) rfl rfl rfl (by decide +kernel) ⟨Nat.le_of_ble_eq_true rfl, Nat.le_of_ble_eq_true rfl⟩) (cf_preO (wc := []) (hE.s 7 rfl).2.1 hE hP hD hS hA [] rfl (by decide +kernel)) rfl rfl hl.1 rfl (lv_room (Nat.le_of_ble_eq_true rfl)) dJString_getBytes_ABIB_1 ⟨Nat.le_of_ble_eq_true rfl, Nat.le_of_ble_eq_true rfl⟩) hP hD hS hA [] [0, 1] rfl rfl (by decide +kernel) (by decide +kernel) (fun r_2 _ H locs hw_3 hP hD hS => ?_)
  subst r_2
  have hP : va_P D vwCl (wSB K h0 a0 o0) H := hP.sub [0, 1] rfl
  have hD : va_D A (wSB K h0 a0 o0) := hD.sub [0, 1] (by decide +kernel) rfl
  refine lv_iload_n hx hb dJString_getBytes_ABIB_4 rfl (lv_at hl 3 rfl) ?_
  refine lv_icmp_ne (tgt := 28) hx hb dJString_getBytes_ABIB_5 (by decide) (fun c_4 => ?_) (fun c_4 => ?_)
  · have h := op_f c_4 h
    refine lv_aload_n hx hb dJString_getBytes_ABIB_28 rfl (lv_at hl 0 rfl) ?_
    refine vk_getf hx hb (hE.s 7 rfl).2.2.2.1 hS hown (hts _ wv_1735) (fun _ h9 => h9) dJString_getBytes_ABIB_29 ?_
    refine lv_iconst (v := 0) hx hb dJString_getBytes_ABIB_32 (by decide) ?_
    refine lv_aload_n hx hb dJString_getBytes_ABIB_33 rfl (lv_at hl 1 rfl) ?_
    refine lv_iload_n hx hb dJString_getBytes_ABIB_34 rfl (lv_at hl 2 rfl) ?_
    refine lv_aload_n hx hb dJString_getBytes_ABIB_35 rfl (lv_at hl 0 rfl) ?_
    refine vk_getf hx hb (hE.s 7 rfl).2.2.2.1 hS hown (hts _ wv_1735) (fun _ h9 => h9) dJString_getBytes_ABIB_36 ?_
    refine va_tlen (v := 9) hx hb (hE.s 7 rfl).2.2.2.2 hS rfl dJString_getBytes_ABIB_39 ?_
    cases h
  · have h := op_t c_4 h
    refine lv_aload_n hx hb dJString_getBytes_ABIB_8 rfl (lv_at hl 0 rfl) ?_
    refine vk_getf hx hb (hE.s 7 rfl).2.2.2.1 hS hown (hts _ wv_1735) (fun _ h9 => h9) dJString_getBytes_ABIB_9 ?_
    refine lv_iconst (v := 0) hx hb dJString_getBytes_ABIB_12 (by decide) ?_
    refine lv_aload_n hx hb dJString_getBytes_ABIB_13 rfl (lv_at hl 1 rfl) ?_
    refine lv_iload_n hx hb dJString_getBytes_ABIB_14 rfl (lv_at hl 2 rfl) ?_
    refine lv_iload_n hx hb dJString_getBytes_ABIB_15 rfl (lv_at hl 3 rfl) ?_
    refine lv_ishl hx hb dJString_getBytes_ABIB_16 ?_
    refine lv_topi (fun x_5 ex_5 => ?_)
    have h := op_ks ex_5 h
    refine lv_aload_n hx hb dJString_getBytes_ABIB_17 rfl (lv_at hl 0 rfl) ?_
    refine vk_getf hx hb (hE.s 7 rfl).2.2.2.1 hS hown (hts _ wv_1735) (fun _ h9 => h9) dJString_getBytes_ABIB_18 ?_
    refine va_tlen (v := 9) hx hb (hE.s 7 rfl).2.2.2.2 hS rfl dJString_getBytes_ABIB_21 ?_
    obtain ⟨hi_6, h⟩ := op_n h
    refine vk_copyt (D := D) (f := cf_sb 7) hx hb (hml.trans hl.1.symm) hown (hts _ wv_1643) (hts _ wv_1295) (hts _ wv_1294) (hts _ wv_187) hK hP hD hS (hE.s 7 rfl).2.2.2.2 1 2 rfl rfl (by decide) (fun z => hi_6 (Or.inl z)) (by decide) (by decide) (Nat.not_lt.mp (fun z => hi_6 (Or.inr z))) (by decide) (Nat.le_of_ble_eq_true rfl) (Nat.le_of_ble_eq_true rfl) dJString_getBytes_ABIB_22 (fun H locs hP hD hS => ?_)
    have hP : va_P D vwCl (wSB K h0 a0 (cb o0 0 7 x_5 9)) H := hP
    have hD : va_D A (wSB K h0 a0 (cb o0 0 7 x_5 9)) := hD
    obtain ⟨o_7, eo_7, h⟩ := op_kx h
    rw [← eo_7] at hP hD
    refine lv_goto (tgt := 43) hx hb dJString_getBytes_ABIB_25 (by decide) ?_
    obtain rfl := Option.some.inj h
    exact dc_vret hx hb hr hlocks rfl hP hD hS dJString_getBytes_ABIB_43
set_option maxRecDepth 100000 in
theorem mJString_getBytes_ABIB_S7_SB0 (l : Launch) (D : va_G) (K : Nat → ClassId) (sz : Nat) (v2 : Int32) (v3 : Int32) (h0 : Nat) (a0 : Nat → Nat) (o0 : cf_O) (r : cf_O) (h : fJString_getBytes_ABIB_S7_SB0 v2 v3 o0 = some r) : Met l yJString_getBytes_ABIB (Cond.code yJString_getBytes_ABIB cJString_getBytes_ABIB 4 (Option.none : Option Jvm.ClassFile.FieldType) :: cfB) ({ frames := 1, cells := 0, slots := 0, locals := 60 }) (va_Pc [.ref (K 107), .ref (a0 0), .int v2, .int v3] (cf_Pre D K sz (wSB K h0 a0 o0))) (va_Qv (fun (_ : Unit) => True) (fun (_ : Unit) t => cf_At D (va_A (wSB K h0 a0 o0) sz) (wSB K h0 a0 r) t) (va_A (wSB K h0 a0 o0) sz)) 0 0 (va_A (wSB K h0 a0 o0) sz) := by
  refine cf_ofW (y := yJString_getBytes_ABIB) (As := [.ref (K 107), .ref (a0 0), .int v2, .int v3]) (WS := wSB K h0 a0 o0) (maxL := 4) (fun A => (va_Qv (fun (_ : Unit) => True) (fun (_ : Unit) t => cf_At D A (wSB K h0 a0 r) t) A)) (by decide) (Nat.le_of_ble_eq_true rfl) ?_
  intro p e s m below meth c A ls En hsz hA hP hD hE hS hl
  have C : (dc_C p s m (([.ref (K 107), .ref (a0 0), .int v2, .int v3] : List Value).toArray) meth c cJString_getBytes_ABIB 4 (Option.none : Option Jvm.ClassFile.FieldType) yJString_getBytes_ABIB ∧ cf_E D K A s s.heap ∧ ∀ q, s.heap.size ≤ q → A q) := ⟨En, hE, hA⟩
  exact bJString_getBytes_ABIB_S7_SB0_0 C v2 v3 o0 r h hP hD hS hl
set_option maxRecDepth 100000 in
theorem nAS_putStringAt_S7_0 (v1 : Int32) (o0 : cf_O) (r : cf_O) (h : fAS_putStringAt_S7_0 v1 o0 = some r) : phSB o0 ≤ phSB r := by
  have hm : phSB o0 ≤ phSB o0 := Nat.le_refl _
  obtain ⟨q_1, hq_1, h⟩ := op_b h
  obtain ⟨q_3, hq_3, h⟩ := op_b h
  have hm : phSB o0 ≤ phSB q_3 := Nat.le_trans hm (nJString_getBytes_ABIB_S7_SB0 _ _ _ _ hq_3)
  obtain rfl := Option.some.inj h
  exact hm
theorem nAS_putStringAt_S7 (v1 : Int32) (o0 : cf_O) (r : cf_O) (h : fAS_putStringAt_S7 v1 o0 = some r) : phSB o0 ≤ phSB r := nAS_putStringAt_S7_0  v1 o0 r h
set_option maxHeartbeats 4000000 in
set_option maxRecDepth 100000 in
theorem bAS_putStringAt_S7_0 {p : Program} {l : Launch} {e : Env} {s : State} {m : MethodId} {below : List Frame} {meth : Method} {c : Code} {A : Nat → Prop} {D : va_G} {K : Nat → ClassId} {h0 : Nat} {a0 : Nat → Nat} {AR : Array Value} (C : (dc_C p s m AR meth c cAS_putStringAt 3 (Option.none : Option Jvm.ClassFile.FieldType) yAS_putStringAt ∧ cf_E D K A s s.heap ∧ ∀ q, s.heap.size ≤ q → A q)) (v1 : Int32) (o0 : cf_O) (r : cf_O) (h : fAS_putStringAt_S7_0 v1 o0 = some r) {H : Heap} {locs : List Loc} {ls : Array Slot} (hP : va_P D vwCl (wSB K h0 a0 o0) H) (hD : va_D A (wSB K h0 a0 o0)) (hS : va_S A s.heap H locs) (hl : lv_has ls 3 [(0, .ref h0), (1, .int v1), (2, .ref (K 107))]) : W p l e ({ frames := 2, cells := 0, slots := 0, locals := 83 }) s m AR below meth c H locs 0 0 (MQ below (va_Qv (fun (_ : Unit) => True) (fun (_ : Unit) t => cf_At D A (wSB K h0 a0 r) t) A) AR s 0 0 A) (F0 m 0 ls []) := by
  obtain ⟨⟨hx, hb, hr, hts, hown, hlocks, hin, hml⟩, hE, hA⟩ := id C
  have hK := hE.k
  refine lv_aload_n hx hb dAS_putStringAt_0 rfl (lv_at hl 0 rfl) ?_
  refine lv_aload_n hx hb dAS_putStringAt_1 rfl (lv_at hl 2 rfl) ?_
  obtain ⟨q_1, hq_1, h⟩ := op_b h
  refine dc_callv (va_runU (As := [.ref (K 107)]) (rest := []) ⟨hx, hb, hml, hown, hts⟩ (mAS_inflateIfNeededFor_S7 l D K _ h0 a0 o0 _ hq_1) (cf_cwU (C := "java/lang/StringBuilder") 1 hts (cf_G1 wv_1618) rfl rfl rfl (hts _ wv_166) (hts _ wv_1615) (hts _ wv_2793) (va_Nw.use rfl (hE.n 32 rfl)) (hts _ wv_1617) (by decide +kernel) ⟨Nat.le_of_ble_eq_true rfl, Nat.le_of_ble_eq_true rfl⟩) (dc_preV hE hP hD hS hA rfl 0 rfl) rfl rfl hl.1 rfl (lv_room (Nat.le_of_ble_eq_true rfl)) dAS_putStringAt_2 ⟨Nat.le_of_ble_eq_true rfl, Nat.le_of_ble_eq_true rfl⟩) hP hD hS hA (fun H locs hP hD hS => ?_)
  refine lv_aload_n hx hb dAS_putStringAt_5 rfl (lv_at hl 2 rfl) ?_
  refine lv_aload_n hx hb dAS_putStringAt_6 rfl (lv_at hl 0 rfl) ?_
  refine va_get (D := D) (ci := 13) (v := .ref (a0 0)) (C := RSB) (T := TSB) (N := 4) hx hb hts inSB hown hK hP 0 rfl rfl 0 (by decide) (hts _ wv_453) (fun _ h9 => h9) rfl dAS_putStringAt_7 ?_
  refine lv_iload_n hx hb dAS_putStringAt_10 rfl (lv_at hl 1 rfl) ?_
  refine lv_aload_n hx hb dAS_putStringAt_11 rfl (lv_at hl 0 rfl) ?_
  refine va_get (D := D) (ci := 13) (v := .int (o0.1 1)) (C := RSB) (T := TSB) (N := 4) hx hb hts inSB hown hK hP 0 rfl rfl 1 (by decide) (hts _ wv_454) (fun _ h9 => h9) rfl dAS_putStringAt_12 ?_
  obtain ⟨q_3, hq_3, h⟩ := op_b h
  refine cf_callv (wc := wSB K h0 a0 o0) (wr := []) (va_runV (As := [.ref (a0 0), .int v1, .int (o0.1 1)]) (rest := []) ⟨hx, hb, hml, hown, hts⟩ (mJString_getBytes_ABIB_S7_SB0 l D K _ v1 (o0.1 1) h0 a0 o0 _ hq_3) (cwV 3 hts (cf_GV wv_1639 wv_1640 wv_1641 wv_168 wv_1642) rfl rfl rfl (by decide +kernel) ⟨Nat.le_of_ble_eq_true rfl, Nat.le_of_ble_eq_true rfl⟩) (cf_preO (wc := wSB K h0 a0 o0) (hE.s 7 rfl).2.1 hE hP hD hS hA [0, 1] rfl (by decide +kernel)) rfl rfl hl.1 rfl (lv_room (Nat.le_of_ble_eq_true rfl)) dAS_putStringAt_15 ⟨Nat.le_of_ble_eq_true rfl, Nat.le_of_ble_eq_true rfl⟩) hP hD hS hA [0, 1] [] rfl rfl (by decide +kernel) (by decide +kernel) (fun _ H locs hw_4 hP hD hS => ?_)
  have hP : va_P D vwCl (wSB K h0 a0 q_3) H := hP.sub [0, 1] rfl
  have hD : va_D A (wSB K h0 a0 q_3) := hD.sub [0, 1] (by decide +kernel) rfl
  obtain rfl := Option.some.inj h
  exact dc_vret hx hb hr hlocks rfl hP hD hS dAS_putStringAt_18
set_option maxRecDepth 100000 in
theorem mAS_putStringAt_S7 (l : Launch) (D : va_G) (K : Nat → ClassId) (sz : Nat) (v1 : Int32) (h0 : Nat) (a0 : Nat → Nat) (o0 : cf_O) (r : cf_O) (h : fAS_putStringAt_S7 v1 o0 = some r) : Met l yAS_putStringAt (Cond.code yAS_putStringAt cAS_putStringAt 3 (Option.none : Option Jvm.ClassFile.FieldType) :: cfB) ({ frames := 2, cells := 0, slots := 0, locals := 83 }) (va_Pc [.ref h0, .int v1, .ref (K 107)] (cf_Pre D K sz (wSB K h0 a0 o0))) (va_Qv (fun (_ : Unit) => True) (fun (_ : Unit) t => cf_At D (va_A (wSB K h0 a0 o0) sz) (wSB K h0 a0 r) t) (va_A (wSB K h0 a0 o0) sz)) 0 0 (va_A (wSB K h0 a0 o0) sz) := by
  refine cf_ofW (y := yAS_putStringAt) (As := [.ref h0, .int v1, .ref (K 107)]) (WS := wSB K h0 a0 o0) (maxL := 3) (fun A => (va_Qv (fun (_ : Unit) => True) (fun (_ : Unit) t => cf_At D A (wSB K h0 a0 r) t) A)) (by decide) (Nat.le_of_ble_eq_true rfl) ?_
  intro p e s m below meth c A ls En hsz hA hP hD hE hS hl
  have C : (dc_C p s m (([.ref h0, .int v1, .ref (K 107)] : List Value).toArray) meth c cAS_putStringAt 3 (Option.none : Option Jvm.ClassFile.FieldType) yAS_putStringAt ∧ cf_E D K A s s.heap ∧ ∀ q, s.heap.size ≤ q → A q) := ⟨En, hE, hA⟩
  exact bAS_putStringAt_S7_0 C v1 o0 r h hP hD hS hl
set_option maxRecDepth 100000 in
theorem nAS_appendS_S7_33 (v2 : Int32) (o0 : cf_O) (r : cf_O) (h : fAS_appendS_S7_33 v2 o0 = some r) : phSB o0 ≤ phSB r := by
  have hm : phSB o0 ≤ phSB o0 := Nat.le_refl _
  obtain ⟨x_1, ex_1, h⟩ := op_kx h
  obtain ⟨o_2, eo_2, h⟩ := op_kx h
  have hm : phSB o0 ≤ phSB o_2 := by rw [eo_2]; exact hm
  obtain rfl := Option.some.inj h
  exact hm
set_option maxRecDepth 100000 in
theorem nAS_appendS_S7_24 (v2 : Int32) (o0 : cf_O) (r : cf_O) (h : fAS_appendS_S7_24 v2 o0 = some r) : phSB o0 ≤ phSB r := by
  have hm : phSB o0 ≤ phSB o0 := Nat.le_refl _
  obtain ⟨q_1, hq_1, h⟩ := op_b h
  have hm : phSB o0 ≤ phSB q_1 := Nat.le_trans hm (nAS_putStringAt_S7 _ _ _ hq_1)
  exact Nat.le_trans hm (nAS_appendS_S7_33 _ _ _ h)
set_option maxRecDepth 100000 in
theorem nAS_appendS_S7_13 (s0 : Int32) (o0 : cf_O) (r : cf_O) (h : fAS_appendS_S7_13 s0 o0 = some r) : phSB o0 ≤ phSB r := by
  have hm : phSB o0 ≤ phSB o0 := Nat.le_refl _
  obtain ⟨x_1, ex_1, h⟩ := op_kx h
  obtain ⟨q_2, hq_2, h⟩ := op_b h
  have hm : phSB o0 ≤ phSB q_2 := Nat.le_trans hm (nAS_ensureCapacityInternal _ _ _ hq_2)
  exact Nat.le_trans hm (nAS_appendS_S7_24 _ _ _ h)
set_option maxRecDepth 100000 in
theorem nAS_appendS_S7_0 (o0 : cf_O) (r : cf_O) (h : fAS_appendS_S7_0 o0 = some r) : phSB o0 ≤ phSB r := by
  have hm : phSB o0 ≤ phSB o0 := Nat.le_refl _
  obtain ⟨q_1, hq_1, h⟩ := op_b h
  exact Nat.le_trans hm (nAS_appendS_S7_13 _ _ _ h)
theorem nAS_appendS_S7 (o0 : cf_O) (r : cf_O) (h : fAS_appendS_S7 o0 = some r) : phSB o0 ≤ phSB r := nAS_appendS_S7_0  o0 r h
set_option maxHeartbeats 4000000 in
set_option maxRecDepth 100000 in
theorem bAS_appendS_S7_33 {p : Program} {l : Launch} {e : Env} {s : State} {m : MethodId} {below : List Frame} {meth : Method} {c : Code} {A : Nat → Prop} {D : va_G} {K : Nat → ClassId} {h0 : Nat} {os : cf_O} {AR : Array Value} (C : (dc_C p s m AR meth c cAS_appendS 3 (Option.some (Jvm.ClassFile.FieldType.object "java/lang/AbstractStringBuilder")) yAS_appendS ∧ cf_E D K A s s.heap ∧ ∀ q, s.heap.size ≤ q → A q)) (v2 : Int32) (o0 : cf_O) (r : cf_O) (h : fAS_appendS_S7_33 v2 o0 = some r) {a0 : Nat → Nat} {H : Heap} {locs : List Loc} {ls : Array Slot} (hg : phSB os ≤ phSB o0) (hP : va_P D vwCl (wSB K h0 a0 o0) H) (hD : va_D A (wSB K h0 a0 o0)) (hS : va_S A s.heap H locs) (hl : lv_has ls 3 [(0, .ref h0), (2, .int v2)]) : W p l e ({ frames := 4, cells := (gC (phSB os) (phSB r)), slots := (gS (phSB os) (phSB r)), locals := 124 }) s m AR below meth c H locs (gC (phSB os) (phSB o0)) (gS (phSB os) (phSB o0)) (MQ below (va_Qr (fun (_ : Nat → Nat) => True) (fun (u : Nat → Nat) q t => cf_At D A (wSB K h0 u r) t ∧ q = h0) A) AR s (gC (phSB os) (phSB r)) (gS (phSB os) (phSB r)) A) (F0 m 33 ls []) := by
  obtain ⟨⟨hx, hb, hr, hts, hown, hlocks, hin, hml⟩, hE, hA⟩ := id C
  have hK := hE.k
  refine lv_aload_n hx hb dAS_appendS_33 rfl (lv_at hl 0 rfl) ?_
  refine lv_dup hx hb dAS_appendS_34 rfl ?_
  refine va_get (D := D) (ci := 13) (v := .int (o0.1 3)) (C := RSB) (T := TSB) (N := 4) hx hb hts inSB hown hK hP 0 rfl rfl 3 (by decide) (hts _ wv_457) (fun _ h9 => h9) rfl dAS_appendS_35 ?_
  refine lv_iload_n hx hb dAS_appendS_38 rfl (lv_at hl 1 rfl) ?_
  refine lv_iadd hx hb dAS_appendS_39 ?_
  refine lv_topi (fun x_1 ex_1 => ?_)
  have h := op_ks ex_1 h
  refine va_put (D := D) (ci := 13) (v := .int x_1) (ty := .int) (C := RSB) (T := TSB) (N := 4) hx hb hts inSB tySB tyokSB nmSB hown hK hP hD hS 0 rfl rfl 3 (by decide) (hts _ wv_457) (fun _ h9 => h9) rfl (by decide +kernel) rfl rfl (Nat.le_of_ble_eq_true rfl) dAS_appendS_40 (fun H locs hP hD hS => ?_)
  have hP : va_P D vwCl (wSB K h0 a0 (fp o0 3 x_1)) H := hP
  have hD : va_D A (wSB K h0 a0 (fp o0 3 x_1)) := hD
  obtain ⟨o_2, eo_2, h⟩ := op_kx h
  rw [← eo_2] at hP hD
  have hf_3 : phSB o_2 = phSB o0 := by rw [eo_2]; rfl
  refine W.widen (k := (gC (phSB os) (phSB o_2))) (n := (gS (phSB os) (phSB o_2))) (by rw [hf_3]; exact Nat.le_refl _) (by rw [hf_3]; exact Nat.le_refl _) ?_
  have hg : phSB os ≤ phSB o_2 := by rw [hf_3]; exact hg
  refine lv_aload_n hx hb dAS_appendS_43 rfl (lv_at hl 0 rfl) ?_
  obtain rfl := Option.some.inj h
  exact dc_aretG a0 hx hb hr ⟨_, rfl⟩ hlocks hP hD hS dAS_appendS_44
set_option maxHeartbeats 4000000 in
set_option maxRecDepth 100000 in
theorem bAS_appendS_S7_24 {p : Program} {l : Launch} {e : Env} {s : State} {m : MethodId} {below : List Frame} {meth : Method} {c : Code} {A : Nat → Prop} {D : va_G} {K : Nat → ClassId} {h0 : Nat} {os : cf_O} {AR : Array Value} (C : (dc_C p s m AR meth c cAS_appendS 3 (Option.some (Jvm.ClassFile.FieldType.object "java/lang/AbstractStringBuilder")) yAS_appendS ∧ cf_E D K A s s.heap ∧ ∀ q, s.heap.size ≤ q → A q)) (v2 : Int32) (o0 : cf_O) (r : cf_O) (h : fAS_appendS_S7_24 v2 o0 = some r) {a0 : Nat → Nat} {H : Heap} {locs : List Loc} {ls : Array Slot} (hg : phSB os ≤ phSB o0) (hP : va_P D vwCl (wSB K h0 a0 o0) H) (hD : va_D A (wSB K h0 a0 o0)) (hS : va_S A s.heap H locs) (hl : lv_has ls 3 [(0, .ref h0), (1, .ref (K 107)), (2, .int v2)]) : W p l e ({ frames := 4, cells := (gC (phSB os) (phSB r)), slots := (gS (phSB os) (phSB r)), locals := 124 }) s m AR below meth c H locs (gC (phSB os) (phSB o0)) (gS (phSB os) (phSB o0)) (MQ below (va_Qr (fun (_ : Nat → Nat) => True) (fun (u : Nat → Nat) q t => cf_At D A (wSB K h0 u r) t ∧ q = h0) A) AR s (gC (phSB os) (phSB r)) (gS (phSB os) (phSB r)) A) (F0 m 24 ls []) := by
  obtain ⟨⟨hx, hb, hr, hts, hown, hlocks, hin, hml⟩, hE, hA⟩ := id C
  have hK := hE.k
  refine lv_aload_n hx hb dAS_appendS_24 rfl (lv_at hl 0 rfl) ?_
  refine lv_aload_n hx hb dAS_appendS_25 rfl (lv_at hl 0 rfl) ?_
  refine va_get (D := D) (ci := 13) (v := .int (o0.1 3)) (C := RSB) (T := TSB) (N := 4) hx hb hts inSB hown hK hP 0 rfl rfl 3 (by decide) (hts _ wv_457) (fun _ h9 => h9) rfl dAS_appendS_26 ?_
  refine lv_aload_n hx hb dAS_appendS_29 rfl (lv_at hl 1 rfl) ?_
  obtain ⟨q_1, hq_1, h⟩ := op_b h
  have hgr_2 : phSB q_1 ≤ phSB r := nAS_appendS_S7_33 _ _ _ h
  have hg2_3 : phSB o0 ≤ phSB q_1 := nAS_putStringAt_S7 _ _ _ hq_1
  refine dc_callv (va_runU (As := [.int (o0.1 3), .ref (K 107)]) (rest := []) ⟨hx, hb, hml, hown, hts⟩ (mAS_putStringAt_S7 l D K _ (o0.1 3) h0 a0 o0 _ hq_1) (cf_cwU (C := "java/lang/StringBuilder") 2 hts (cf_G1 wv_1614) rfl rfl rfl (hts _ wv_166) (hts _ wv_1611) (hts _ wv_2792) (va_Nw.use rfl (hE.n 31 rfl)) (hts _ wv_1613) (by decide +kernel) ⟨Nat.le_of_ble_eq_true rfl, Nat.le_of_ble_eq_true rfl⟩) (dc_preV hE hP hD hS hA rfl 0 rfl) rfl rfl hl.1 rfl (lv_room (Nat.le_of_ble_eq_true rfl)) dAS_appendS_30 ⟨gC_le (Nat.le_trans hg2_3 hgr_2), gS_le (Nat.le_trans hg2_3 hgr_2)⟩) hP hD hS hA (fun H locs hP hD hS => ?_)
  refine W.widen (k := (gC (phSB os) (phSB q_1))) (n := (gS (phSB os) (phSB q_1))) (gC_le hg2_3) (gS_le hg2_3) ?_
  have hg : phSB os ≤ phSB q_1 := Nat.le_trans hg hg2_3
  exact bAS_appendS_S7_33 C _ _ _ h hg hP hD hS (lv_sub hl [0, 2] rfl)
set_option maxHeartbeats 4000000 in
set_option maxRecDepth 100000 in
theorem bAS_appendS_S7_13 {p : Program} {l : Launch} {e : Env} {s : State} {m : MethodId} {below : List Frame} {meth : Method} {c : Code} {A : Nat → Prop} {D : va_G} {K : Nat → ClassId} {h0 : Nat} {os : cf_O} {AR : Array Value} (C : (dc_C p s m AR meth c cAS_appendS 3 (Option.some (Jvm.ClassFile.FieldType.object "java/lang/AbstractStringBuilder")) yAS_appendS ∧ cf_E D K A s s.heap ∧ ∀ q, s.heap.size ≤ q → A q)) (s0 : Int32) (o0 : cf_O) (r : cf_O) (h : fAS_appendS_S7_13 s0 o0 = some r) {a0 : Nat → Nat} {H : Heap} {locs : List Loc} {ls : Array Slot} (hg : phSB os ≤ phSB o0) (hP : va_P D vwCl (wSB K h0 a0 o0) H) (hD : va_D A (wSB K h0 a0 o0)) (hS : va_S A s.heap H locs) (hl : lv_has ls 3 [(0, .ref h0), (1, .ref (K 107))]) : W p l e ({ frames := 4, cells := (gC (phSB os) (phSB r)), slots := (gS (phSB os) (phSB r)), locals := 124 }) s m AR below meth c H locs (gC (phSB os) (phSB o0)) (gS (phSB os) (phSB o0)) (MQ below (va_Qr (fun (_ : Nat → Nat) => True) (fun (u : Nat → Nat) q t => cf_At D A (wSB K h0 u r) t ∧ q = h0) A) AR s (gC (phSB os) (phSB r)) (gS (phSB os) (phSB r)) A) (F0 m 13 ls [.int s0]) := by
  obtain ⟨⟨hx, hb, hr, hts, hown, hlocks, hin, hml⟩, hE, hA⟩ := id C
  have hK := hE.k
  refine lv_istore_n (lv' := [(2, .int s0), (0, .ref h0), (1, .ref (K 107))]) hx hb dAS_appendS_13 rfl hl (by decide) rfl (fun ls hl => ?_)
  refine lv_aload_n hx hb dAS_appendS_14 rfl (lv_at hl 1 rfl) ?_
  refine lv_aload_n hx hb dAS_appendS_15 rfl (lv_at hl 1 rfl) ?_
  refine va_get (D := D) (ci := 13) (v := .int (o0.1 3)) (C := RSB) (T := TSB) (N := 4) hx hb hts inSB hown hK hP 0 rfl rfl 3 (by decide) (hts _ wv_457) (fun _ h9 => h9) rfl dAS_appendS_16 ?_
  refine lv_iload_n hx hb dAS_appendS_19 rfl (lv_at hl 0 rfl) ?_
  refine lv_iadd hx hb dAS_appendS_20 ?_
  refine lv_topi (fun x_1 ex_1 => ?_)
  have h := op_ks ex_1 h
  obtain ⟨q_2, hq_2, h⟩ := op_b h
  have hgr_3 : phSB q_2 ≤ phSB r := nAS_appendS_S7_24 _ _ _ h
  have hg2_4 : phSB o0 ≤ phSB q_2 := nAS_ensureCapacityInternal _ _ _ hq_2
  refine cf_callv (wc := wSB K h0 a0 o0) (wr := []) (va_runU (As := [.int x_1]) (rest := []) ⟨hx, hb, hml, hown, hts⟩ (mAS_ensureCapacityInternal l D K _ x_1 h0 a0 o0 _ hq_2) (cf_cwU (C := "java/lang/StringBuilder") 1 hts (cf_G1 wv_1568) rfl rfl rfl (hts _ wv_166) (hts _ wv_1565) (hts _ wv_2790) (va_Nw.use rfl (hE.n 29 rfl)) (hts _ wv_1567) (by decide +kernel) ⟨Nat.le_of_ble_eq_true rfl, Nat.le_of_ble_eq_true rfl⟩) (cf_preV (wc := wSB K h0 a0 o0) hE hP hD hS hA rfl 0 rfl [0, 1] rfl (by decide +kernel)) rfl rfl hl.1 rfl (lv_room (Nat.le_of_ble_eq_true rfl)) dAS_appendS_21 ⟨Nat.le_trans (gC_add hg hg2_4) (gC_le hgr_3), Nat.le_trans (gS_add hg hg2_4) (gS_le hgr_3)⟩) hP hD hS hA [0, 1] [] rfl rfl (by decide +kernel) (by decide +kernel) (fun a0_6 H locs hw_5 hP hD hS => ?_)
  have hP : va_P D vwCl (wSB K h0 a0_6 q_2) H := hP.sub [0, 1] rfl
  have hD : va_D A (wSB K h0 a0_6 q_2) := hD.sub [0, 1] (by decide +kernel) rfl
  refine W.widen (k := (gC (phSB os) (phSB q_2))) (n := (gS (phSB os) (phSB q_2))) (gC_add hg hg2_4) (gS_add hg hg2_4) ?_
  have hg : phSB os ≤ phSB q_2 := Nat.le_trans hg hg2_4
  exact bAS_appendS_S7_24 C _ _ _ h hg hP hD hS (lv_sub hl [1, 2, 0] rfl)
set_option maxHeartbeats 4000000 in
set_option maxRecDepth 100000 in
theorem bAS_appendS_S7_0 {p : Program} {l : Launch} {e : Env} {s : State} {m : MethodId} {below : List Frame} {meth : Method} {c : Code} {A : Nat → Prop} {D : va_G} {K : Nat → ClassId} {h0 : Nat} {os : cf_O} {AR : Array Value} (C : (dc_C p s m AR meth c cAS_appendS 3 (Option.some (Jvm.ClassFile.FieldType.object "java/lang/AbstractStringBuilder")) yAS_appendS ∧ cf_E D K A s s.heap ∧ ∀ q, s.heap.size ≤ q → A q)) (o0 : cf_O) (r : cf_O) (h : fAS_appendS_S7_0 o0 = some r) {a0 : Nat → Nat} {H : Heap} {locs : List Loc} {ls : Array Slot} (hg : phSB os ≤ phSB o0) (hP : va_P D vwCl (wSB K h0 a0 o0) H) (hD : va_D A (wSB K h0 a0 o0)) (hS : va_S A s.heap H locs) (hl : lv_has ls 3 [(0, .ref h0), (1, .ref (K 107))]) : W p l e ({ frames := 4, cells := (gC (phSB os) (phSB r)), slots := (gS (phSB os) (phSB r)), locals := 124 }) s m AR below meth c H locs (gC (phSB os) (phSB o0)) (gS (phSB os) (phSB o0)) (MQ below (va_Qr (fun (_ : Nat → Nat) => True) (fun (u : Nat → Nat) q t => cf_At D A (wSB K h0 u r) t ∧ q = h0) A) AR s (gC (phSB os) (phSB r)) (gS (phSB os) (phSB r)) A) (F0 m 0 ls []) := by
  obtain ⟨⟨hx, hb, hr, hts, hown, hlocks, hin, hml⟩, hE, hA⟩ := id C
  have hK := hE.k
  refine lv_aload_n hx hb dAS_appendS_0 rfl (lv_at hl 1 rfl) ?_
  refine lv_ifnonnull (tgt := 9) hx hb dAS_appendS_1 (by decide) ?_
  refine lv_aload_n hx hb dAS_appendS_9 rfl (lv_at hl 1 rfl) ?_
  obtain ⟨q_1, hq_1, h⟩ := op_b h
  have hgr_2 : phSB o0 ≤ phSB r := nAS_appendS_S7_13 _ _ _ h
  refine cf_calli (wc := []) (wr := wSB K h0 a0 o0) (va_runV (As := []) (rest := []) ⟨hx, hb, hml, hown, hts⟩ (mJString_length__S7 l D K _ _ hq_1) (cwV 0 hts (cf_GV wv_1610 wv_757 wv_758 wv_168 wv_759) rfl rfl rfl (by decide +kernel) ⟨Nat.le_of_ble_eq_true rfl, Nat.le_of_ble_eq_true rfl⟩) (cf_preO (wc := []) (hE.s 7 rfl).2.1 hE hP hD hS hA [] rfl (by decide +kernel)) rfl rfl hl.1 rfl (lv_room (Nat.le_of_ble_eq_true rfl)) dAS_appendS_10 ⟨gC_le hgr_2, gS_le hgr_2⟩) hP hD hS hA [] [0, 1] rfl rfl (by decide +kernel) (by decide +kernel) (fun r_4 _ H locs hw_5 hP hD hS => ?_)
  subst r_4
  have hP : va_P D vwCl (wSB K h0 a0 o0) H := hP.sub [0, 1] rfl
  have hD : va_D A (wSB K h0 a0 o0) := hD.sub [0, 1] (by decide +kernel) rfl
  refine W.widen (k := (gC (phSB os) (phSB o0))) (n := (gS (phSB os) (phSB o0))) (Nat.le_refl _) (Nat.le_refl _) ?_
  exact bAS_appendS_S7_13 C _ _ _ h hg hP hD hS (lv_sub hl [0, 1] rfl)
set_option maxRecDepth 100000 in
theorem mAS_appendS_S7 (l : Launch) (D : va_G) (K : Nat → ClassId) (sz : Nat) (h0 : Nat) (a0 : Nat → Nat) (o0 : cf_O) (r : cf_O) (h : fAS_appendS_S7 o0 = some r) : Met l yAS_appendS (Cond.code yAS_appendS cAS_appendS 3 (Option.some (Jvm.ClassFile.FieldType.object "java/lang/AbstractStringBuilder")) :: cfB) ({ frames := 4, cells := (gC (phSB o0) (phSB r)), slots := (gS (phSB o0) (phSB r)), locals := 124 }) (va_Pc [.ref h0, .ref (K 107)] (cf_Pre D K sz (wSB K h0 a0 o0))) (va_Qr (fun (_ : Nat → Nat) => True) (fun (u : Nat → Nat) q t => cf_At D (va_A (wSB K h0 a0 o0) sz) (wSB K h0 u r) t ∧ q = h0) (va_A (wSB K h0 a0 o0) sz)) (gC (phSB o0) (phSB r)) (gS (phSB o0) (phSB r)) (va_A (wSB K h0 a0 o0) sz) := by
  refine cf_ofW (y := yAS_appendS) (As := [.ref h0, .ref (K 107)]) (WS := wSB K h0 a0 o0) (maxL := 3) (fun A => (va_Qr (fun (_ : Nat → Nat) => True) (fun (u : Nat → Nat) q t => cf_At D A (wSB K h0 u r) t ∧ q = h0) A)) (by decide) (Nat.le_of_ble_eq_true rfl) ?_
  intro p e s m below meth c A ls En hsz hA hP hD hE hS hl
  have C : (dc_C p s m (([.ref h0, .ref (K 107)] : List Value).toArray) meth c cAS_appendS 3 (Option.some (Jvm.ClassFile.FieldType.object "java/lang/AbstractStringBuilder")) yAS_appendS ∧ cf_E D K A s s.heap ∧ ∀ q, s.heap.size ≤ q → A q) := ⟨En, hE, hA⟩
  refine W.widen (k := gC (phSB o0) (phSB o0)) (n := gS (phSB o0) (phSB o0)) (Nat.zero_le _) (Nat.zero_le _) ?_
  exact bAS_appendS_S7_0 C o0 r h (Nat.le_refl _) hP hD hS hl
set_option maxRecDepth 100000 in
theorem nSB_appendS_S7_5 (o0 : cf_O) (r : cf_O) (h : fSB_appendS_S7_5 o0 = some r) : phSB o0 ≤ phSB r := by
  have hm : phSB o0 ≤ phSB o0 := Nat.le_refl _
  obtain rfl := Option.some.inj h
  exact hm
set_option maxRecDepth 100000 in
theorem nSB_appendS_S7_0 (o0 : cf_O) (r : cf_O) (h : fSB_appendS_S7_0 o0 = some r) : phSB o0 ≤ phSB r := by
  have hm : phSB o0 ≤ phSB o0 := Nat.le_refl _
  obtain ⟨q_1, hq_1, h⟩ := op_b h
  have hm : phSB o0 ≤ phSB q_1 := Nat.le_trans hm (nAS_appendS_S7 _ _ hq_1)
  exact Nat.le_trans hm (nSB_appendS_S7_5 _ _ h)
theorem nSB_appendS_S7 (o0 : cf_O) (r : cf_O) (h : fSB_appendS_S7 o0 = some r) : phSB o0 ≤ phSB r := nSB_appendS_S7_0  o0 r h
set_option maxHeartbeats 4000000 in
set_option maxRecDepth 100000 in
theorem bSB_appendS_S7_5 {p : Program} {l : Launch} {e : Env} {s : State} {m : MethodId} {below : List Frame} {meth : Method} {c : Code} {A : Nat → Prop} {D : va_G} {K : Nat → ClassId} {h0 : Nat} {os : cf_O} {AR : Array Value} (C : (dc_C p s m AR meth c cSB_appendS 2 (Option.some (Jvm.ClassFile.FieldType.object "java/lang/StringBuilder")) ySB_appendS ∧ cf_E D K A s s.heap ∧ ∀ q, s.heap.size ≤ q → A q)) (o0 : cf_O) (r : cf_O) (h : fSB_appendS_S7_5 o0 = some r) {a0 : Nat → Nat} {H : Heap} {locs : List Loc} {ls : Array Slot} (hg : phSB os ≤ phSB o0) (hP : va_P D vwCl (wSB K h0 a0 o0) H) (hD : va_D A (wSB K h0 a0 o0)) (hS : va_S A s.heap H locs) (hl : lv_has ls 2 [(0, .ref h0)]) : W p l e ({ frames := 5, cells := (gC (phSB os) (phSB r)), slots := (gS (phSB os) (phSB r)), locals := 146 }) s m AR below meth c H locs (gC (phSB os) (phSB o0)) (gS (phSB os) (phSB o0)) (MQ below (va_Qr (fun (_ : Nat → Nat) => True) (fun (u : Nat → Nat) q t => cf_At D A (wSB K h0 u r) t ∧ q = h0) A) AR s (gC (phSB os) (phSB r)) (gS (phSB os) (phSB r)) A) (F0 m 5 ls [.ref h0]) := by
  obtain ⟨⟨hx, hb, hr, hts, hown, hlocks, hin, hml⟩, hE, hA⟩ := id C
  have hK := hE.k
  refine lv_pop hx hb dSB_appendS_5 rfl ?_
  refine lv_aload_n hx hb dSB_appendS_6 rfl (lv_at hl 0 rfl) ?_
  obtain rfl := Option.some.inj h
  exact dc_aretG a0 hx hb hr ⟨_, rfl⟩ hlocks hP hD hS dSB_appendS_7
set_option maxHeartbeats 4000000 in
set_option maxRecDepth 100000 in
theorem bSB_appendS_S7_0 {p : Program} {l : Launch} {e : Env} {s : State} {m : MethodId} {below : List Frame} {meth : Method} {c : Code} {A : Nat → Prop} {D : va_G} {K : Nat → ClassId} {h0 : Nat} {os : cf_O} {AR : Array Value} (C : (dc_C p s m AR meth c cSB_appendS 2 (Option.some (Jvm.ClassFile.FieldType.object "java/lang/StringBuilder")) ySB_appendS ∧ cf_E D K A s s.heap ∧ ∀ q, s.heap.size ≤ q → A q)) (o0 : cf_O) (r : cf_O) (h : fSB_appendS_S7_0 o0 = some r) {a0 : Nat → Nat} {H : Heap} {locs : List Loc} {ls : Array Slot} (hg : phSB os ≤ phSB o0) (hP : va_P D vwCl (wSB K h0 a0 o0) H) (hD : va_D A (wSB K h0 a0 o0)) (hS : va_S A s.heap H locs) (hl : lv_has ls 2 [(0, .ref h0), (1, .ref (K 107))]) : W p l e ({ frames := 5, cells := (gC (phSB os) (phSB r)), slots := (gS (phSB os) (phSB r)), locals := 146 }) s m AR below meth c H locs (gC (phSB os) (phSB o0)) (gS (phSB os) (phSB o0)) (MQ below (va_Qr (fun (_ : Nat → Nat) => True) (fun (u : Nat → Nat) q t => cf_At D A (wSB K h0 u r) t ∧ q = h0) A) AR s (gC (phSB os) (phSB r)) (gS (phSB os) (phSB r)) A) (F0 m 0 ls []) := by
  obtain ⟨⟨hx, hb, hr, hts, hown, hlocks, hin, hml⟩, hE, hA⟩ := id C
  have hK := hE.k
  refine lv_aload_n hx hb dSB_appendS_0 rfl (lv_at hl 0 rfl) ?_
  refine lv_aload_n hx hb dSB_appendS_1 rfl (lv_at hl 1 rfl) ?_
  obtain ⟨q_1, hq_1, h⟩ := op_b h
  have hgr_2 : phSB q_1 ≤ phSB r := nSB_appendS_S7_5 _ _ h
  have hg2_3 : phSB o0 ≤ phSB q_1 := nAS_appendS_S7 _ _ hq_1
  refine cf_callR (wc := wSB K h0 a0 o0) (wr := []) (va_runSU (hK.1 13 _ rfl).2 (As := [.ref (K 107)]) (rest := []) ⟨hx, hb, hml, hown, hts⟩ (mAS_appendS_S7 l D K _ h0 a0 o0 _ hq_1) (cf_cwSU 1 hts (cf_G1 wv_1560) rfl rfl rfl (hts _ wv_1558) (hts _ wv_2788) (hts _ wv_466) (hts _ wv_1559) (hts _ wv_166) (by decide +kernel) ⟨Nat.le_of_ble_eq_true rfl, Nat.le_of_ble_eq_true rfl⟩) (cf_preV (wc := wSB K h0 a0 o0) hE hP hD hS hA rfl 0 rfl [0, 1] rfl (by decide +kernel)) rfl rfl hl.1 rfl (lv_room (Nat.le_of_ble_eq_true rfl)) dSB_appendS_2 ⟨Nat.le_trans (gC_add hg hg2_3) (gC_le hgr_2), Nat.le_trans (gS_add hg hg2_3) (gS_le hgr_2)⟩) hP hD hS hA [0, 1] [] rfl rfl (by decide +kernel) (by decide +kernel) (fun a0_5 H locs hw_4 hP hD hS => ?_)
  have hP : va_P D vwCl (wSB K h0 a0_5 q_1) H := hP.sub [0, 1] rfl
  have hD : va_D A (wSB K h0 a0_5 q_1) := hD.sub [0, 1] (by decide +kernel) rfl
  refine W.widen (k := (gC (phSB os) (phSB q_1))) (n := (gS (phSB os) (phSB q_1))) (gC_add hg hg2_3) (gS_add hg hg2_3) ?_
  have hg : phSB os ≤ phSB q_1 := Nat.le_trans hg hg2_3
  exact bSB_appendS_S7_5 C _ _ h hg hP hD hS (lv_sub hl [0] rfl)
set_option maxRecDepth 100000 in
theorem mSB_appendS_S7 (l : Launch) (D : va_G) (K : Nat → ClassId) (sz : Nat) (h0 : Nat) (a0 : Nat → Nat) (o0 : cf_O) (r : cf_O) (h : fSB_appendS_S7 o0 = some r) : Met l ySB_appendS (Cond.code ySB_appendS cSB_appendS 2 (Option.some (Jvm.ClassFile.FieldType.object "java/lang/StringBuilder")) :: cfB) ({ frames := 5, cells := (gC (phSB o0) (phSB r)), slots := (gS (phSB o0) (phSB r)), locals := 146 }) (va_Pc [.ref h0, .ref (K 107)] (cf_Pre D K sz (wSB K h0 a0 o0))) (va_Qr (fun (_ : Nat → Nat) => True) (fun (u : Nat → Nat) q t => cf_At D (va_A (wSB K h0 a0 o0) sz) (wSB K h0 u r) t ∧ q = h0) (va_A (wSB K h0 a0 o0) sz)) (gC (phSB o0) (phSB r)) (gS (phSB o0) (phSB r)) (va_A (wSB K h0 a0 o0) sz) := by
  refine cf_ofW (y := ySB_appendS) (As := [.ref h0, .ref (K 107)]) (WS := wSB K h0 a0 o0) (maxL := 2) (fun A => (va_Qr (fun (_ : Nat → Nat) => True) (fun (u : Nat → Nat) q t => cf_At D A (wSB K h0 u r) t ∧ q = h0) A)) (by decide) (Nat.le_of_ble_eq_true rfl) ?_
  intro p e s m below meth c A ls En hsz hA hP hD hE hS hl
  have C : (dc_C p s m (([.ref h0, .ref (K 107)] : List Value).toArray) meth c cSB_appendS 2 (Option.some (Jvm.ClassFile.FieldType.object "java/lang/StringBuilder")) ySB_appendS ∧ cf_E D K A s s.heap ∧ ∀ q, s.heap.size ≤ q → A q) := ⟨En, hE, hA⟩
  refine W.widen (k := gC (phSB o0) (phSB o0)) (n := gS (phSB o0) (phSB o0)) (Nat.zero_le _) (Nat.zero_le _) ?_
  exact bSB_appendS_S7_0 C o0 r h (Nat.le_refl _) hP hD hS hl
def NISc_writeHead (n : Nat) : Prop := (∀ (v2 : Int32) (o0 : cf_O) (o1 : cf_O) (o2 : cf_O) (r : cf_O), gSc_writeHead n 0 v2 o0 o1 o2 = some r → phSB o2 ≤ phSB r) ∧ (∀ (v2 : Int32) (o0 : cf_O) (o1 : cf_O) (o2 : cf_O) (r : cf_O), gSc_writeHead n 1 v2 o0 o1 o2 = some r → phSB o2 ≤ phSB r)
set_option maxRecDepth 100000 in
theorem nSc_writeHead_89 {n : Nat} (ih : NISc_writeHead n) (o0 : cf_O) (o1 : cf_O) (o2 : cf_O) (r : cf_O) (h : fSc_writeHead_89 (gSc_writeHead n) o0 o1 o2 = some r) : phSB o2 ≤ phSB r := by
  have hm : phSB o2 ≤ phSB o2 := Nat.le_refl _
  obtain rfl := Option.some.inj h
  exact hm
set_option maxRecDepth 100000 in
theorem nSc_writeHead_74 {n : Nat} (ih : NISc_writeHead n) (v2 : Int32) (o0 : cf_O) (o1 : cf_O) (o2 : cf_O) (r : cf_O) (h : fSc_writeHead_74 (gSc_writeHead n) v2 o0 o1 o2 = some r) : phSB o2 ≤ phSB r := by
  have hm : phSB o2 ≤ phSB o2 := Nat.le_refl _
  obtain ⟨x_1, ex_1, h⟩ := op_kx h
  exact Nat.le_trans hm ((ih.2) _ _ _ _ _ h)
set_option maxRecDepth 100000 in
theorem nSc_writeHead_56 {n : Nat} (ih : NISc_writeHead n) (v2 : Int32) (o0 : cf_O) (o1 : cf_O) (o2 : cf_O) (r : cf_O) (h : fSc_writeHead_56 (gSc_writeHead n) v2 o0 o1 o2 = some r) : phSB o2 ≤ phSB r := by
  have hm : phSB o2 ≤ phSB o2 := Nat.le_refl _
  rcases (Classical.em ((o1.1 1) ≤ v2)) with c_1 | c_1
  · have h := op_t c_1 h
    obtain ⟨q_2, hq_2, h⟩ := op_b h
    have hm : phSB o2 ≤ phSB q_2 := Nat.le_trans hm (nSB_appendC _ _ _ hq_2)
    exact Nat.le_trans hm (nSc_writeHead_89 ih _ _ _ _ h)
  · have h := op_f c_1 h
    obtain ⟨hi_7, h⟩ := op_n h
    obtain ⟨x_8, ex_8, h⟩ := op_kx h
    obtain ⟨q_9, hq_9, h⟩ := op_b h
    have hm : phSB o2 ≤ phSB q_9 := Nat.le_trans hm (nSc_writeName _ _ _ _ hq_9)
    exact Nat.le_trans hm (nSc_writeHead_74 ih _ _ _ _ _ h)
set_option maxRecDepth 100000 in
theorem nSc_writeHead_53 {n : Nat} (ih : NISc_writeHead n) (o0 : cf_O) (o1 : cf_O) (o2 : cf_O) (r : cf_O) (h : fSc_writeHead_53 (gSc_writeHead n) o0 o1 o2 = some r) : phSB o2 ≤ phSB r := by
  have hm : phSB o2 ≤ phSB o2 := Nat.le_refl _
  exact Nat.le_trans hm ((ih.2) _ _ _ _ _ h)
set_option maxRecDepth 100000 in
theorem nSc_writeHead_38 {n : Nat} (ih : NISc_writeHead n) (v2 : Int32) (o0 : cf_O) (o1 : cf_O) (o2 : cf_O) (r : cf_O) (h : fSc_writeHead_38 (gSc_writeHead n) v2 o0 o1 o2 = some r) : phSB o2 ≤ phSB r := by
  have hm : phSB o2 ≤ phSB o2 := Nat.le_refl _
  obtain ⟨x_1, ex_1, h⟩ := op_kx h
  exact Nat.le_trans hm ((ih.1) _ _ _ _ _ h)
set_option maxRecDepth 100000 in
theorem nSc_writeHead_20 {n : Nat} (ih : NISc_writeHead n) (v2 : Int32) (o0 : cf_O) (o1 : cf_O) (o2 : cf_O) (r : cf_O) (h : fSc_writeHead_20 (gSc_writeHead n) v2 o0 o1 o2 = some r) : phSB o2 ≤ phSB r := by
  have hm : phSB o2 ≤ phSB o2 := Nat.le_refl _
  rcases (Classical.em ((o1.1 0) ≤ v2)) with c_1 | c_1
  · have h := op_t c_1 h
    obtain ⟨q_2, hq_2, h⟩ := op_b h
    have hm : phSB o2 ≤ phSB q_2 := Nat.le_trans hm (nSB_appendS_S7 _ _ hq_2)
    exact Nat.le_trans hm (nSc_writeHead_53 ih _ _ _ _ h)
  · have h := op_f c_1 h
    obtain ⟨hi_7, h⟩ := op_n h
    obtain ⟨x_8, ex_8, h⟩ := op_kx h
    obtain ⟨q_9, hq_9, h⟩ := op_b h
    have hm : phSB o2 ≤ phSB q_9 := Nat.le_trans hm (nSc_writeName _ _ _ _ hq_9)
    exact Nat.le_trans hm (nSc_writeHead_38 ih _ _ _ _ _ h)
set_option maxRecDepth 100000 in
theorem nSc_writeHead_17 {n : Nat} (ih : NISc_writeHead n) (o0 : cf_O) (o1 : cf_O) (o2 : cf_O) (r : cf_O) (h : fSc_writeHead_17 (gSc_writeHead n) o0 o1 o2 = some r) : phSB o2 ≤ phSB r := by
  have hm : phSB o2 ≤ phSB o2 := Nat.le_refl _
  exact Nat.le_trans hm ((ih.1) _ _ _ _ _ h)
set_option maxRecDepth 100000 in
theorem nSc_writeHead_8 {n : Nat} (ih : NISc_writeHead n) (o0 : cf_O) (o1 : cf_O) (o2 : cf_O) (r : cf_O) (h : fSc_writeHead_8 (gSc_writeHead n) o0 o1 o2 = some r) : phSB o2 ≤ phSB r := by
  have hm : phSB o2 ≤ phSB o2 := Nat.le_refl _
  obtain ⟨q_1, hq_1, h⟩ := op_b h
  have hm : phSB o2 ≤ phSB q_1 := Nat.le_trans hm (nSB_appendS_S6 _ _ hq_1)
  exact Nat.le_trans hm (nSc_writeHead_17 ih _ _ _ _ h)
set_option maxRecDepth 100000 in
theorem nSc_writeHead_0 {n : Nat} (ih : NISc_writeHead n) (o0 : cf_O) (o1 : cf_O) (o2 : cf_O) (r : cf_O) (h : fSc_writeHead_0 (gSc_writeHead n) o0 o1 o2 = some r) : phSB o2 ≤ phSB r := by
  have hm : phSB o2 ≤ phSB o2 := Nat.le_refl _
  obtain ⟨q_1, hq_1, h⟩ := op_b h
  have hm : phSB o2 ≤ phSB q_1 := Nat.le_trans hm (nSB_setLength _ _ _ hq_1)
  exact Nat.le_trans hm (nSc_writeHead_8 ih _ _ _ _ h)
theorem niSc_writeHead : ∀ n, NISc_writeHead n := by
  intro n
  induction n with
  | zero => exact ⟨(fun _ _ _ _ r h => by cases (show none = some r from h)), (fun _ _ _ _ r h => by cases (show none = some r from h))⟩
  | succ n ih => exact ⟨fun x0 x1 x2 x3 r h => nSc_writeHead_20 ih x0 x1 x2 x3 r h, fun x0 x1 x2 x3 r h => nSc_writeHead_56 ih x0 x1 x2 x3 r h⟩
theorem nSc_writeHead (o0 : cf_O) (o1 : cf_O) (o2 : cf_O) (r : cf_O) (h : fSc_writeHead o0 o1 o2 = some r) : phSB o2 ≤ phSB r := nSc_writeHead_0 (niSc_writeHead cfFU) o0 o1 o2 r h
def IhSc_writeHead (p : Program) (l : Launch) (e : Env) (s : State) (m : MethodId) (below : List Frame) (meth : Method) (c : Code) (A : Nat → Prop) (D : va_G) (K : Nat → ClassId) (h0 : Nat) (h1 : Nat) (a1 : Nat → Nat) (h2 : Nat) (os : cf_O) (AR : Array Value) (n : Nat) : Prop := (∀ (v2 : Int32) (o0 : cf_O) (o1 : cf_O) (o2 : cf_O) (r : cf_O), gSc_writeHead n 0 v2 o0 o1 o2 = some r → ∀ {a2 : Nat → Nat} {H : Heap} {locs : List Loc} {ls : Array Slot}, (phSB os ≤ phSB o2) → (va_P D vwCl (wSc K h0 (fun _ => h2) o0 ++ wNl K h1 a1 o1 ++ wSB K h2 a2 o2) H) → (va_D A (wSc K h0 (fun _ => h2) o0 ++ wNl K h1 a1 o1 ++ wSB K h2 a2 o2)) → va_S A s.heap H locs → lv_has ls 3 [(0, .ref h0), (1, .ref h1), (2, .int v2)] → W p l e ({ frames := 7, cells := (gC (phSB os) (phSB r)), slots := (gS (phSB os) (phSB r)), locals := 190 }) s m AR below meth c H locs (gC (phSB os) (phSB o2)) (gS (phSB os) (phSB o2)) (MQ below (va_Qv (fun (_ : Nat → Nat) => True) (fun (u : Nat → Nat) t => cf_At D A (wSc K h0 (fun _ => h2) o0 ++ wNl K h1 a1 o1 ++ wSB K h2 u r) t) A) AR s (gC (phSB os) (phSB r)) (gS (phSB os) (phSB r)) A) (F0 m 20 ls [])) ∧ (∀ (v2 : Int32) (o0 : cf_O) (o1 : cf_O) (o2 : cf_O) (r : cf_O), gSc_writeHead n 1 v2 o0 o1 o2 = some r → ∀ {a2 : Nat → Nat} {H : Heap} {locs : List Loc} {ls : Array Slot}, (phSB os ≤ phSB o2) → (va_P D vwCl (wSc K h0 (fun _ => h2) o0 ++ wNl K h1 a1 o1 ++ wSB K h2 a2 o2) H) → (va_D A (wSc K h0 (fun _ => h2) o0 ++ wNl K h1 a1 o1 ++ wSB K h2 a2 o2)) → va_S A s.heap H locs → lv_has ls 3 [(0, .ref h0), (1, .ref h1), (2, .int v2)] → W p l e ({ frames := 7, cells := (gC (phSB os) (phSB r)), slots := (gS (phSB os) (phSB r)), locals := 190 }) s m AR below meth c H locs (gC (phSB os) (phSB o2)) (gS (phSB os) (phSB o2)) (MQ below (va_Qv (fun (_ : Nat → Nat) => True) (fun (u : Nat → Nat) t => cf_At D A (wSc K h0 (fun _ => h2) o0 ++ wNl K h1 a1 o1 ++ wSB K h2 u r) t) A) AR s (gC (phSB os) (phSB r)) (gS (phSB os) (phSB r)) A) (F0 m 56 ls []))
set_option maxHeartbeats 4000000 in
set_option maxRecDepth 100000 in
theorem bSc_writeHead_89 {p : Program} {l : Launch} {e : Env} {s : State} {m : MethodId} {below : List Frame} {meth : Method} {c : Code} {A : Nat → Prop} {D : va_G} {K : Nat → ClassId} {h0 : Nat} {h1 : Nat} {a1 : Nat → Nat} {h2 : Nat} {os : cf_O} {AR : Array Value} (C : (dc_C p s m AR meth c cSc_writeHead 3 (Option.none : Option Jvm.ClassFile.FieldType) ySc_writeHead ∧ cf_E D K A s s.heap ∧ ∀ q, s.heap.size ≤ q → A q)) {n : Nat} (ih : IhSc_writeHead p l e s m below meth c A D K h0 h1 a1 h2 os AR n) (o0 : cf_O) (o1 : cf_O) (o2 : cf_O) (r : cf_O) (h : fSc_writeHead_89 (gSc_writeHead n) o0 o1 o2 = some r) {a2 : Nat → Nat} {H : Heap} {locs : List Loc} {ls : Array Slot} (hg : phSB os ≤ phSB o2) (hP : va_P D vwCl (wSc K h0 (fun _ => h2) o0 ++ wNl K h1 a1 o1 ++ wSB K h2 a2 o2) H) (hD : va_D A (wSc K h0 (fun _ => h2) o0 ++ wNl K h1 a1 o1 ++ wSB K h2 a2 o2)) (hS : va_S A s.heap H locs) (hl : lv_has ls 3 []) : W p l e ({ frames := 7, cells := (gC (phSB os) (phSB r)), slots := (gS (phSB os) (phSB r)), locals := 190 }) s m AR below meth c H locs (gC (phSB os) (phSB o2)) (gS (phSB os) (phSB o2)) (MQ below (va_Qv (fun (_ : Nat → Nat) => True) (fun (u : Nat → Nat) t => cf_At D A (wSc K h0 (fun _ => h2) o0 ++ wNl K h1 a1 o1 ++ wSB K h2 u r) t) A) AR s (gC (phSB os) (phSB r)) (gS (phSB os) (phSB r)) A) (F0 m 89 ls [.ref h2]) := by
  obtain ⟨⟨hx, hb, hr, hts, hown, hlocks, hin, hml⟩, hE, hA⟩ := id C
  have hK := hE.k
  refine lv_pop hx hb dSc_writeHead_89 rfl ?_
  obtain rfl := Option.some.inj h
  exact dc_vretG a2 hx hb hr hlocks hP hD hS dSc_writeHead_90
set_option maxHeartbeats 4000000 in
set_option maxRecDepth 100000 in
theorem bSc_writeHead_74 {p : Program} {l : Launch} {e : Env} {s : State} {m : MethodId} {below : List Frame} {meth : Method} {c : Code} {A : Nat → Prop} {D : va_G} {K : Nat → ClassId} {h0 : Nat} {h1 : Nat} {a1 : Nat → Nat} {h2 : Nat} {os : cf_O} {AR : Array Value} (C : (dc_C p s m AR meth c cSc_writeHead 3 (Option.none : Option Jvm.ClassFile.FieldType) ySc_writeHead ∧ cf_E D K A s s.heap ∧ ∀ q, s.heap.size ≤ q → A q)) {n : Nat} (ih : IhSc_writeHead p l e s m below meth c A D K h0 h1 a1 h2 os AR n) (v2 : Int32) (o0 : cf_O) (o1 : cf_O) (o2 : cf_O) (r : cf_O) (h : fSc_writeHead_74 (gSc_writeHead n) v2 o0 o1 o2 = some r) {a2 : Nat → Nat} {H : Heap} {locs : List Loc} {ls : Array Slot} (hg : phSB os ≤ phSB o2) (hP : va_P D vwCl (wSc K h0 (fun _ => h2) o0 ++ wNl K h1 a1 o1 ++ wSB K h2 a2 o2) H) (hD : va_D A (wSc K h0 (fun _ => h2) o0 ++ wNl K h1 a1 o1 ++ wSB K h2 a2 o2)) (hS : va_S A s.heap H locs) (hl : lv_has ls 3 [(0, .ref h0), (1, .ref h1), (2, .int v2)]) : W p l e ({ frames := 7, cells := (gC (phSB os) (phSB r)), slots := (gS (phSB os) (phSB r)), locals := 190 }) s m AR below meth c H locs (gC (phSB os) (phSB o2)) (gS (phSB os) (phSB o2)) (MQ below (va_Qv (fun (_ : Nat → Nat) => True) (fun (u : Nat → Nat) t => cf_At D A (wSc K h0 (fun _ => h2) o0 ++ wNl K h1 a1 o1 ++ wSB K h2 u r) t) A) AR s (gC (phSB os) (phSB r)) (gS (phSB os) (phSB r)) A) (F0 m 74 ls []) := by
  obtain ⟨⟨hx, hb, hr, hts, hown, hlocks, hin, hml⟩, hE, hA⟩ := id C
  have hK := hE.k
  obtain ⟨x_1, ex_1⟩ : ∃ y : Int32, y = v2 + 1 := ⟨_, rfl⟩
  refine lv_iinc (v := x_1) (lv' := [(2, .int x_1), (0, .ref h0), (1, .ref h1)]) hx hb dSc_writeHead_74 hl (k := 2) rfl (by rw [ex_1]; rfl) (by decide) rfl (fun ls hl => ?_)
  have h := op_ks ex_1 h
  refine lv_goto (tgt := 56) hx hb dSc_writeHead_77 (by decide) ?_
  exact (ih.2) _ _ _ _ _ h hg hP hD hS (lv_sub hl [1, 2, 0] rfl)
set_option maxHeartbeats 4000000 in
set_option maxRecDepth 100000 in
theorem bSc_writeHead_56 {p : Program} {l : Launch} {e : Env} {s : State} {m : MethodId} {below : List Frame} {meth : Method} {c : Code} {A : Nat → Prop} {D : va_G} {K : Nat → ClassId} {h0 : Nat} {h1 : Nat} {a1 : Nat → Nat} {h2 : Nat} {os : cf_O} {AR : Array Value} (C : (dc_C p s m AR meth c cSc_writeHead 3 (Option.none : Option Jvm.ClassFile.FieldType) ySc_writeHead ∧ cf_E D K A s s.heap ∧ ∀ q, s.heap.size ≤ q → A q)) {n : Nat} (ih : IhSc_writeHead p l e s m below meth c A D K h0 h1 a1 h2 os AR n) (v2 : Int32) (o0 : cf_O) (o1 : cf_O) (o2 : cf_O) (r : cf_O) (h : fSc_writeHead_56 (gSc_writeHead n) v2 o0 o1 o2 = some r) {a2 : Nat → Nat} {H : Heap} {locs : List Loc} {ls : Array Slot} (hg : phSB os ≤ phSB o2) (hP : va_P D vwCl (wSc K h0 (fun _ => h2) o0 ++ wNl K h1 a1 o1 ++ wSB K h2 a2 o2) H) (hD : va_D A (wSc K h0 (fun _ => h2) o0 ++ wNl K h1 a1 o1 ++ wSB K h2 a2 o2)) (hS : va_S A s.heap H locs) (hl : lv_has ls 3 [(0, .ref h0), (1, .ref h1), (2, .int v2)]) : W p l e ({ frames := 7, cells := (gC (phSB os) (phSB r)), slots := (gS (phSB os) (phSB r)), locals := 190 }) s m AR below meth c H locs (gC (phSB os) (phSB o2)) (gS (phSB os) (phSB o2)) (MQ below (va_Qv (fun (_ : Nat → Nat) => True) (fun (u : Nat → Nat) t => cf_At D A (wSc K h0 (fun _ => h2) o0 ++ wNl K h1 a1 o1 ++ wSB K h2 u r) t) A) AR s (gC (phSB os) (phSB r)) (gS (phSB os) (phSB r)) A) (F0 m 56 ls []) := by
  obtain ⟨⟨hx, hb, hr, hts, hown, hlocks, hin, hml⟩, hE, hA⟩ := id C
  have hK := hE.k
  refine lv_iload_n hx hb dSc_writeHead_56 rfl (lv_at hl 2 rfl) ?_
  refine lv_aload_n hx hb dSc_writeHead_57 rfl (lv_at hl 1 rfl) ?_
  refine va_get (D := D) (ci := 2) (v := .int (o1.1 1)) (C := RNl) (T := TNl) (N := 17) hx hb hts inNl hown hK hP 1 rfl rfl 1 (by decide) (hts _ wv_486) (fun _ h9 => h9) rfl dSc_writeHead_58 ?_
  refine lv_icmp_ge (tgt := 80) hx hb dSc_writeHead_61 (by decide) (fun c_1 => ?_) (fun c_1 => ?_)
  · have h := op_t c_1 h
    refine lv_aload_n hx hb dSc_writeHead_80 rfl (lv_at hl 0 rfl) ?_
    refine va_get (D := D) (ci := 10) (v := .ref h2) (C := RSc) (T := TSc) (N := 2) hx hb hts inSc hown hK hP 0 rfl rfl 1 (by decide) (hts _ wv_469) (fun _ h9 => h9) rfl dSc_writeHead_81 ?_
    refine lv_bipush (v := 10) hx hb dSc_writeHead_84 (by decide) ?_
    obtain ⟨q_2, hq_2, h⟩ := op_b h
    have hgr_3 : phSB q_2 ≤ phSB r := nSc_writeHead_89 (niSc_writeHead n) _ _ _ _ h
    have hg2_4 : phSB o2 ≤ phSB q_2 := nSB_appendC _ _ _ hq_2
    refine cf_callR (wc := wSB K h2 a2 o2) (wr := wSc K h0 (fun _ => h2) o0 ++ wNl K h1 a1 o1) (va_runV (As := [.int 10]) (rest := []) ⟨hx, hb, hml, hown, hts⟩ (mSB_appendC l D K _ 10 h2 a2 o2 _ hq_2) (cwV 1 hts (cf_GV wv_1798 wv_1799 wv_1800 wv_167 wv_1801) rfl rfl rfl (by decide +kernel) ⟨Nat.le_of_ble_eq_true rfl, Nat.le_of_ble_eq_true rfl⟩) (cf_preV (wc := wSB K h2 a2 o2) hE hP hD hS hA rfl 14 rfl [14, 15] rfl (by decide +kernel)) rfl rfl hl.1 rfl (lv_room (Nat.le_of_ble_eq_true rfl)) dSc_writeHead_86 ⟨Nat.le_trans (gC_add hg hg2_4) (gC_le hgr_3), Nat.le_trans (gS_add hg hg2_4) (gS_le hgr_3)⟩) hP hD hS hA [14, 15] [0, 1, 2, 3, 4, 5, 6, 7, 8, 9, 10, 11, 12, 13] rfl rfl (by decide +kernel) (by decide +kernel) (fun a2_6 H locs hw_5 hP hD hS => ?_)
    have hP : va_P D vwCl (wSc K h0 (fun _ => h2) o0 ++ wNl K h1 a1 o1 ++ wSB K h2 a2_6 q_2) H := hP.sub [0, 1, 2, 3, 4, 5, 6, 7, 8, 9, 10, 11, 12, 13, 14, 15] rfl
    have hD : va_D A (wSc K h0 (fun _ => h2) o0 ++ wNl K h1 a1 o1 ++ wSB K h2 a2_6 q_2) := hD.sub [0, 1, 2, 3, 4, 5, 6, 7, 8, 9, 10, 11, 12, 13, 14, 15] (by decide +kernel) rfl
    refine W.widen (k := (gC (phSB os) (phSB q_2))) (n := (gS (phSB os) (phSB q_2))) (gC_add hg hg2_4) (gS_add hg hg2_4) ?_
    have hg : phSB os ≤ phSB q_2 := Nat.le_trans hg hg2_4
    exact bSc_writeHead_89 C ih _ _ _ _ h hg hP hD hS (lv_sub hl [] rfl)
  · have h := op_f c_1 h
    refine lv_aload_n hx hb dSc_writeHead_64 rfl (lv_at hl 0 rfl) ?_
    refine lv_aload_n hx hb dSc_writeHead_65 rfl (lv_at hl 1 rfl) ?_
    refine va_get (D := D) (ci := 2) (v := .ref (a1 4)) (C := RNl) (T := TNl) (N := 17) hx hb hts inNl hown hK hP 1 rfl rfl 4 (by decide) (hts _ wv_492) (fun _ h9 => h9) rfl dSc_writeHead_66 ?_
    refine lv_iload_n hx hb dSc_writeHead_69 rfl (lv_at hl 2 rfl) ?_
    obtain ⟨hi_7, h⟩ := op_n h
    refine va_lald (D := D) hx hb hK hP 3 1 rfl rfl hi_7 dSc_writeHead_70 ?_
    refine lv_topl (fun x_8 ex_8 => ?_)
    have h := op_ks ex_8 h
    obtain ⟨q_9, hq_9, h⟩ := op_b h
    have hgr_10 : phSB q_9 ≤ phSB r := nSc_writeHead_74 (niSc_writeHead n) _ _ _ _ _ h
    have hg2_11 : phSB o2 ≤ phSB q_9 := nSc_writeName _ _ _ _ hq_9
    refine cf_callv (wc := wSc K h0 (fun _ => h2) o0 ++ wSB K h2 a2 o2) (wr := wNl K h1 a1 o1) (va_runV (As := [.long x_8]) (rest := []) ⟨hx, hb, hml, hown, hts⟩ (mSc_writeName l D K _ x_8 h0 h2 a2 o0 o2 _ hq_9) (cwV 1 hts (cf_GV wv_1794 wv_1795 wv_1796 wv_165 wv_1797) rfl rfl rfl (by decide +kernel) ⟨Nat.le_of_ble_eq_true rfl, Nat.le_of_ble_eq_true rfl⟩) (cf_preV (wc := wSc K h0 (fun _ => h2) o0 ++ wSB K h2 a2 o2) hE hP hD hS hA rfl 0 rfl [0, 14, 15] rfl (by decide +kernel)) rfl rfl hl.1 rfl (lv_room (Nat.le_of_ble_eq_true rfl)) dSc_writeHead_71 ⟨Nat.le_trans (gC_add hg hg2_11) (gC_le hgr_10), Nat.le_trans (gS_add hg hg2_11) (gS_le hgr_10)⟩) hP hD hS hA [0, 14, 15] [1, 2, 3, 4, 5, 6, 7, 8, 9, 10, 11, 12, 13] rfl rfl (by decide +kernel) (by decide +kernel) (fun a2_13 H locs hw_12 hP hD hS => ?_)
    have hP : va_P D vwCl (wSc K h0 (fun _ => h2) o0 ++ wNl K h1 a1 o1 ++ wSB K h2 a2_13 q_9) H := hP.sub [13, 0, 1, 2, 3, 4, 5, 6, 7, 8, 9, 10, 11, 12, 14, 15] rfl
    have hD : va_D A (wSc K h0 (fun _ => h2) o0 ++ wNl K h1 a1 o1 ++ wSB K h2 a2_13 q_9) := hD.sub [13, 0, 1, 2, 3, 4, 5, 6, 7, 8, 9, 10, 11, 12, 14, 15] (by decide +kernel) rfl
    refine W.widen (k := (gC (phSB os) (phSB q_9))) (n := (gS (phSB os) (phSB q_9))) (gC_add hg hg2_11) (gS_add hg hg2_11) ?_
    have hg : phSB os ≤ phSB q_9 := Nat.le_trans hg hg2_11
    exact bSc_writeHead_74 C ih _ _ _ _ _ h hg hP hD hS (lv_sub hl [0, 1, 2] rfl)
set_option maxHeartbeats 4000000 in
set_option maxRecDepth 100000 in
theorem bSc_writeHead_53 {p : Program} {l : Launch} {e : Env} {s : State} {m : MethodId} {below : List Frame} {meth : Method} {c : Code} {A : Nat → Prop} {D : va_G} {K : Nat → ClassId} {h0 : Nat} {h1 : Nat} {a1 : Nat → Nat} {h2 : Nat} {os : cf_O} {AR : Array Value} (C : (dc_C p s m AR meth c cSc_writeHead 3 (Option.none : Option Jvm.ClassFile.FieldType) ySc_writeHead ∧ cf_E D K A s s.heap ∧ ∀ q, s.heap.size ≤ q → A q)) {n : Nat} (ih : IhSc_writeHead p l e s m below meth c A D K h0 h1 a1 h2 os AR n) (o0 : cf_O) (o1 : cf_O) (o2 : cf_O) (r : cf_O) (h : fSc_writeHead_53 (gSc_writeHead n) o0 o1 o2 = some r) {a2 : Nat → Nat} {H : Heap} {locs : List Loc} {ls : Array Slot} (hg : phSB os ≤ phSB o2) (hP : va_P D vwCl (wSc K h0 (fun _ => h2) o0 ++ wNl K h1 a1 o1 ++ wSB K h2 a2 o2) H) (hD : va_D A (wSc K h0 (fun _ => h2) o0 ++ wNl K h1 a1 o1 ++ wSB K h2 a2 o2)) (hS : va_S A s.heap H locs) (hl : lv_has ls 3 [(0, .ref h0), (1, .ref h1)]) : W p l e ({ frames := 7, cells := (gC (phSB os) (phSB r)), slots := (gS (phSB os) (phSB r)), locals := 190 }) s m AR below meth c H locs (gC (phSB os) (phSB o2)) (gS (phSB os) (phSB o2)) (MQ below (va_Qv (fun (_ : Nat → Nat) => True) (fun (u : Nat → Nat) t => cf_At D A (wSc K h0 (fun _ => h2) o0 ++ wNl K h1 a1 o1 ++ wSB K h2 u r) t) A) AR s (gC (phSB os) (phSB r)) (gS (phSB os) (phSB r)) A) (F0 m 53 ls [.ref h2]) := by
  obtain ⟨⟨hx, hb, hr, hts, hown, hlocks, hin, hml⟩, hE, hA⟩ := id C
  have hK := hE.k
  refine lv_pop hx hb dSc_writeHead_53 rfl ?_
  refine lv_iconst (v := 0) hx hb dSc_writeHead_54 (by decide) ?_
  refine lv_istore_n (lv' := [(2, .int 0), (0, .ref h0), (1, .ref h1)]) hx hb dSc_writeHead_55 rfl hl (by decide) rfl (fun ls hl => ?_)
  exact (ih.2) _ _ _ _ _ h hg hP hD hS (lv_sub hl [1, 2, 0] rfl)
set_option maxHeartbeats 4000000 in
set_option maxRecDepth 100000 in
theorem bSc_writeHead_38 {p : Program} {l : Launch} {e : Env} {s : State} {m : MethodId} {below : List Frame} {meth : Method} {c : Code} {A : Nat → Prop} {D : va_G} {K : Nat → ClassId} {h0 : Nat} {h1 : Nat} {a1 : Nat → Nat} {h2 : Nat} {os : cf_O} {AR : Array Value} (C : (dc_C p s m AR meth c cSc_writeHead 3 (Option.none : Option Jvm.ClassFile.FieldType) ySc_writeHead ∧ cf_E D K A s s.heap ∧ ∀ q, s.heap.size ≤ q → A q)) {n : Nat} (ih : IhSc_writeHead p l e s m below meth c A D K h0 h1 a1 h2 os AR n) (v2 : Int32) (o0 : cf_O) (o1 : cf_O) (o2 : cf_O) (r : cf_O) (h : fSc_writeHead_38 (gSc_writeHead n) v2 o0 o1 o2 = some r) {a2 : Nat → Nat} {H : Heap} {locs : List Loc} {ls : Array Slot} (hg : phSB os ≤ phSB o2) (hP : va_P D vwCl (wSc K h0 (fun _ => h2) o0 ++ wNl K h1 a1 o1 ++ wSB K h2 a2 o2) H) (hD : va_D A (wSc K h0 (fun _ => h2) o0 ++ wNl K h1 a1 o1 ++ wSB K h2 a2 o2)) (hS : va_S A s.heap H locs) (hl : lv_has ls 3 [(0, .ref h0), (1, .ref h1), (2, .int v2)]) : W p l e ({ frames := 7, cells := (gC (phSB os) (phSB r)), slots := (gS (phSB os) (phSB r)), locals := 190 }) s m AR below meth c H locs (gC (phSB os) (phSB o2)) (gS (phSB os) (phSB o2)) (MQ below (va_Qv (fun (_ : Nat → Nat) => True) (fun (u : Nat → Nat) t => cf_At D A (wSc K h0 (fun _ => h2) o0 ++ wNl K h1 a1 o1 ++ wSB K h2 u r) t) A) AR s (gC (phSB os) (phSB r)) (gS (phSB os) (phSB r)) A) (F0 m 38 ls []) := by
  obtain ⟨⟨hx, hb, hr, hts, hown, hlocks, hin, hml⟩, hE, hA⟩ := id C
  have hK := hE.k
  obtain ⟨x_1, ex_1⟩ : ∃ y : Int32, y = v2 + 1 := ⟨_, rfl⟩
  refine lv_iinc (v := x_1) (lv' := [(2, .int x_1), (0, .ref h0), (1, .ref h1)]) hx hb dSc_writeHead_38 hl (k := 2) rfl (by rw [ex_1]; rfl) (by decide) rfl (fun ls hl => ?_)
  have h := op_ks ex_1 h
  refine lv_goto (tgt := 20) hx hb dSc_writeHead_41 (by decide) ?_
  exact (ih.1) _ _ _ _ _ h hg hP hD hS (lv_sub hl [1, 2, 0] rfl)
set_option maxHeartbeats 4000000 in
set_option maxRecDepth 100000 in
theorem bSc_writeHead_20 {p : Program} {l : Launch} {e : Env} {s : State} {m : MethodId} {below : List Frame} {meth : Method} {c : Code} {A : Nat → Prop} {D : va_G} {K : Nat → ClassId} {h0 : Nat} {h1 : Nat} {a1 : Nat → Nat} {h2 : Nat} {os : cf_O} {AR : Array Value} (C : (dc_C p s m AR meth c cSc_writeHead 3 (Option.none : Option Jvm.ClassFile.FieldType) ySc_writeHead ∧ cf_E D K A s s.heap ∧ ∀ q, s.heap.size ≤ q → A q)) {n : Nat} (ih : IhSc_writeHead p l e s m below meth c A D K h0 h1 a1 h2 os AR n) (v2 : Int32) (o0 : cf_O) (o1 : cf_O) (o2 : cf_O) (r : cf_O) (h : fSc_writeHead_20 (gSc_writeHead n) v2 o0 o1 o2 = some r) {a2 : Nat → Nat} {H : Heap} {locs : List Loc} {ls : Array Slot} (hg : phSB os ≤ phSB o2) (hP : va_P D vwCl (wSc K h0 (fun _ => h2) o0 ++ wNl K h1 a1 o1 ++ wSB K h2 a2 o2) H) (hD : va_D A (wSc K h0 (fun _ => h2) o0 ++ wNl K h1 a1 o1 ++ wSB K h2 a2 o2)) (hS : va_S A s.heap H locs) (hl : lv_has ls 3 [(0, .ref h0), (1, .ref h1), (2, .int v2)]) : W p l e ({ frames := 7, cells := (gC (phSB os) (phSB r)), slots := (gS (phSB os) (phSB r)), locals := 190 }) s m AR below meth c H locs (gC (phSB os) (phSB o2)) (gS (phSB os) (phSB o2)) (MQ below (va_Qv (fun (_ : Nat → Nat) => True) (fun (u : Nat → Nat) t => cf_At D A (wSc K h0 (fun _ => h2) o0 ++ wNl K h1 a1 o1 ++ wSB K h2 u r) t) A) AR s (gC (phSB os) (phSB r)) (gS (phSB os) (phSB r)) A) (F0 m 20 ls []) := by
  obtain ⟨⟨hx, hb, hr, hts, hown, hlocks, hin, hml⟩, hE, hA⟩ := id C
  have hK := hE.k
  refine lv_iload_n hx hb dSc_writeHead_20 rfl (lv_at hl 2 rfl) ?_
  refine lv_aload_n hx hb dSc_writeHead_21 rfl (lv_at hl 1 rfl) ?_
  refine va_get (D := D) (ci := 2) (v := .int (o1.1 0)) (C := RNl) (T := TNl) (N := 17) hx hb hts inNl hown hK hP 1 rfl rfl 0 (by decide) (hts _ wv_484) (fun _ h9 => h9) rfl dSc_writeHead_22 ?_
  refine lv_icmp_ge (tgt := 44) hx hb dSc_writeHead_25 (by decide) (fun c_1 => ?_) (fun c_1 => ?_)
  · have h := op_t c_1 h
    refine lv_aload_n hx hb dSc_writeHead_44 rfl (lv_at hl 0 rfl) ?_
    refine va_get (D := D) (ci := 10) (v := .ref h2) (C := RSc) (T := TSc) (N := 2) hx hb hts inSc hown hK hP 0 rfl rfl 1 (by decide) (hts _ wv_469) (fun _ h9 => h9) rfl dSc_writeHead_45 ?_
    refine va_ldcS hx hb hown (hE.s 7 rfl).1 dSc_writeHead_48 ?_
    obtain ⟨q_2, hq_2, h⟩ := op_b h
    have hgr_3 : phSB q_2 ≤ phSB r := nSc_writeHead_53 (niSc_writeHead n) _ _ _ _ h
    have hg2_4 : phSB o2 ≤ phSB q_2 := nSB_appendS_S7 _ _ hq_2
    refine cf_callR (wc := wSB K h2 a2 o2) (wr := wSc K h0 (fun _ => h2) o0 ++ wNl K h1 a1 o1) (va_runV (As := [.ref (K 107)]) (rest := []) ⟨hx, hb, hml, hown, hts⟩ (mSB_appendS_S7 l D K _ h2 a2 o2 _ hq_2) (cwV 1 hts (cf_GV wv_1793 wv_1555 wv_1556 wv_167 wv_1557) rfl rfl rfl (by decide +kernel) ⟨Nat.le_of_ble_eq_true rfl, Nat.le_of_ble_eq_true rfl⟩) (cf_preV (wc := wSB K h2 a2 o2) hE hP hD hS hA rfl 14 rfl [14, 15] rfl (by decide +kernel)) rfl rfl hl.1 rfl (lv_room (Nat.le_of_ble_eq_true rfl)) dSc_writeHead_50 ⟨Nat.le_trans (gC_add hg hg2_4) (gC_le hgr_3), Nat.le_trans (gS_add hg hg2_4) (gS_le hgr_3)⟩) hP hD hS hA [14, 15] [0, 1, 2, 3, 4, 5, 6, 7, 8, 9, 10, 11, 12, 13] rfl rfl (by decide +kernel) (by decide +kernel) (fun a2_6 H locs hw_5 hP hD hS => ?_)
    have hP : va_P D vwCl (wSc K h0 (fun _ => h2) o0 ++ wNl K h1 a1 o1 ++ wSB K h2 a2_6 q_2) H := hP.sub [0, 1, 2, 3, 4, 5, 6, 7, 8, 9, 10, 11, 12, 13, 14, 15] rfl
    have hD : va_D A (wSc K h0 (fun _ => h2) o0 ++ wNl K h1 a1 o1 ++ wSB K h2 a2_6 q_2) := hD.sub [0, 1, 2, 3, 4, 5, 6, 7, 8, 9, 10, 11, 12, 13, 14, 15] (by decide +kernel) rfl
    refine W.widen (k := (gC (phSB os) (phSB q_2))) (n := (gS (phSB os) (phSB q_2))) (gC_add hg hg2_4) (gS_add hg hg2_4) ?_
    have hg : phSB os ≤ phSB q_2 := Nat.le_trans hg hg2_4
    exact bSc_writeHead_53 C ih _ _ _ _ h hg hP hD hS (lv_sub hl [0, 1] rfl)
  · have h := op_f c_1 h
    refine lv_aload_n hx hb dSc_writeHead_28 rfl (lv_at hl 0 rfl) ?_
    refine lv_aload_n hx hb dSc_writeHead_29 rfl (lv_at hl 1 rfl) ?_
    refine va_get (D := D) (ci := 2) (v := .ref (a1 3)) (C := RNl) (T := TNl) (N := 17) hx hb hts inNl hown hK hP 1 rfl rfl 3 (by decide) (hts _ wv_490) (fun _ h9 => h9) rfl dSc_writeHead_30 ?_
    refine lv_iload_n hx hb dSc_writeHead_33 rfl (lv_at hl 2 rfl) ?_
    obtain ⟨hi_7, h⟩ := op_n h
    refine va_lald (D := D) hx hb hK hP 2 1 rfl rfl hi_7 dSc_writeHead_34 ?_
    refine lv_topl (fun x_8 ex_8 => ?_)
    have h := op_ks ex_8 h
    obtain ⟨q_9, hq_9, h⟩ := op_b h
    have hgr_10 : phSB q_9 ≤ phSB r := nSc_writeHead_38 (niSc_writeHead n) _ _ _ _ _ h
    have hg2_11 : phSB o2 ≤ phSB q_9 := nSc_writeName _ _ _ _ hq_9
    refine cf_callv (wc := wSc K h0 (fun _ => h2) o0 ++ wSB K h2 a2 o2) (wr := wNl K h1 a1 o1) (va_runV (As := [.long x_8]) (rest := []) ⟨hx, hb, hml, hown, hts⟩ (mSc_writeName l D K _ x_8 h0 h2 a2 o0 o2 _ hq_9) (cwV 1 hts (cf_GV wv_1794 wv_1795 wv_1796 wv_165 wv_1797) rfl rfl rfl (by decide +kernel) ⟨Nat.le_of_ble_eq_true rfl, Nat.le_of_ble_eq_true rfl⟩) (cf_preV (wc := wSc K h0 (fun _ => h2) o0 ++ wSB K h2 a2 o2) hE hP hD hS hA rfl 0 rfl [0, 14, 15] rfl (by decide +kernel)) rfl rfl hl.1 rfl (lv_room (Nat.le_of_ble_eq_true rfl)) dSc_writeHead_35 ⟨Nat.le_trans (gC_add hg hg2_11) (gC_le hgr_10), Nat.le_trans (gS_add hg hg2_11) (gS_le hgr_10)⟩) hP hD hS hA [0, 14, 15] [1, 2, 3, 4, 5, 6, 7, 8, 9, 10, 11, 12, 13] rfl rfl (by decide +kernel) (by decide +kernel) (fun a2_13 H locs hw_12 hP hD hS => ?_)
    have hP : va_P D vwCl (wSc K h0 (fun _ => h2) o0 ++ wNl K h1 a1 o1 ++ wSB K h2 a2_13 q_9) H := hP.sub [13, 0, 1, 2, 3, 4, 5, 6, 7, 8, 9, 10, 11, 12, 14, 15] rfl
    have hD : va_D A (wSc K h0 (fun _ => h2) o0 ++ wNl K h1 a1 o1 ++ wSB K h2 a2_13 q_9) := hD.sub [13, 0, 1, 2, 3, 4, 5, 6, 7, 8, 9, 10, 11, 12, 14, 15] (by decide +kernel) rfl
    refine W.widen (k := (gC (phSB os) (phSB q_9))) (n := (gS (phSB os) (phSB q_9))) (gC_add hg hg2_11) (gS_add hg hg2_11) ?_
    have hg : phSB os ≤ phSB q_9 := Nat.le_trans hg hg2_11
    exact bSc_writeHead_38 C ih _ _ _ _ _ h hg hP hD hS (lv_sub hl [0, 1, 2] rfl)
set_option maxHeartbeats 4000000 in
set_option maxRecDepth 100000 in
theorem bSc_writeHead_17 {p : Program} {l : Launch} {e : Env} {s : State} {m : MethodId} {below : List Frame} {meth : Method} {c : Code} {A : Nat → Prop} {D : va_G} {K : Nat → ClassId} {h0 : Nat} {h1 : Nat} {a1 : Nat → Nat} {h2 : Nat} {os : cf_O} {AR : Array Value} (C : (dc_C p s m AR meth c cSc_writeHead 3 (Option.none : Option Jvm.ClassFile.FieldType) ySc_writeHead ∧ cf_E D K A s s.heap ∧ ∀ q, s.heap.size ≤ q → A q)) {n : Nat} (ih : IhSc_writeHead p l e s m below meth c A D K h0 h1 a1 h2 os AR n) (o0 : cf_O) (o1 : cf_O) (o2 : cf_O) (r : cf_O) (h : fSc_writeHead_17 (gSc_writeHead n) o0 o1 o2 = some r) {a2 : Nat → Nat} {H : Heap} {locs : List Loc} {ls : Array Slot} (hg : phSB os ≤ phSB o2) (hP : va_P D vwCl (wSc K h0 (fun _ => h2) o0 ++ wNl K h1 a1 o1 ++ wSB K h2 a2 o2) H) (hD : va_D A (wSc K h0 (fun _ => h2) o0 ++ wNl K h1 a1 o1 ++ wSB K h2 a2 o2)) (hS : va_S A s.heap H locs) (hl : lv_has ls 3 [(0, .ref h0), (1, .ref h1)]) : W p l e ({ frames := 7, cells := (gC (phSB os) (phSB r)), slots := (gS (phSB os) (phSB r)), locals := 190 }) s m AR below meth c H locs (gC (phSB os) (phSB o2)) (gS (phSB os) (phSB o2)) (MQ below (va_Qv (fun (_ : Nat → Nat) => True) (fun (u : Nat → Nat) t => cf_At D A (wSc K h0 (fun _ => h2) o0 ++ wNl K h1 a1 o1 ++ wSB K h2 u r) t) A) AR s (gC (phSB os) (phSB r)) (gS (phSB os) (phSB r)) A) (F0 m 17 ls [.ref h2]) := by
  obtain ⟨⟨hx, hb, hr, hts, hown, hlocks, hin, hml⟩, hE, hA⟩ := id C
  have hK := hE.k
  refine lv_pop hx hb dSc_writeHead_17 rfl ?_
  refine lv_iconst (v := 0) hx hb dSc_writeHead_18 (by decide) ?_
  refine lv_istore_n (lv' := [(2, .int 0), (0, .ref h0), (1, .ref h1)]) hx hb dSc_writeHead_19 rfl hl (by decide) rfl (fun ls hl => ?_)
  exact (ih.1) _ _ _ _ _ h hg hP hD hS (lv_sub hl [1, 2, 0] rfl)
set_option maxHeartbeats 4000000 in
set_option maxRecDepth 100000 in
theorem bSc_writeHead_8 {p : Program} {l : Launch} {e : Env} {s : State} {m : MethodId} {below : List Frame} {meth : Method} {c : Code} {A : Nat → Prop} {D : va_G} {K : Nat → ClassId} {h0 : Nat} {h1 : Nat} {a1 : Nat → Nat} {h2 : Nat} {os : cf_O} {AR : Array Value} (C : (dc_C p s m AR meth c cSc_writeHead 3 (Option.none : Option Jvm.ClassFile.FieldType) ySc_writeHead ∧ cf_E D K A s s.heap ∧ ∀ q, s.heap.size ≤ q → A q)) {n : Nat} (ih : IhSc_writeHead p l e s m below meth c A D K h0 h1 a1 h2 os AR n) (o0 : cf_O) (o1 : cf_O) (o2 : cf_O) (r : cf_O) (h : fSc_writeHead_8 (gSc_writeHead n) o0 o1 o2 = some r) {a2 : Nat → Nat} {H : Heap} {locs : List Loc} {ls : Array Slot} (hg : phSB os ≤ phSB o2) (hP : va_P D vwCl (wSc K h0 (fun _ => h2) o0 ++ wNl K h1 a1 o1 ++ wSB K h2 a2 o2) H) (hD : va_D A (wSc K h0 (fun _ => h2) o0 ++ wNl K h1 a1 o1 ++ wSB K h2 a2 o2)) (hS : va_S A s.heap H locs) (hl : lv_has ls 3 [(0, .ref h0), (1, .ref h1)]) : W p l e ({ frames := 7, cells := (gC (phSB os) (phSB r)), slots := (gS (phSB os) (phSB r)), locals := 190 }) s m AR below meth c H locs (gC (phSB os) (phSB o2)) (gS (phSB os) (phSB o2)) (MQ below (va_Qv (fun (_ : Nat → Nat) => True) (fun (u : Nat → Nat) t => cf_At D A (wSc K h0 (fun _ => h2) o0 ++ wNl K h1 a1 o1 ++ wSB K h2 u r) t) A) AR s (gC (phSB os) (phSB r)) (gS (phSB os) (phSB r)) A) (F0 m 8 ls []) := by
  obtain ⟨⟨hx, hb, hr, hts, hown, hlocks, hin, hml⟩, hE, hA⟩ := id C
  have hK := hE.k
  refine lv_aload_n hx hb dSc_writeHead_8 rfl (lv_at hl 0 rfl) ?_
  refine va_get (D := D) (ci := 10) (v := .ref h2) (C := RSc) (T := TSc) (N := 2) hx hb hts inSc hown hK hP 0 rfl rfl 1 (by decide) (hts _ wv_469) (fun _ h9 => h9) rfl dSc_writeHead_9 ?_
  refine va_ldcS hx hb hown (hE.s 6 rfl).1 dSc_writeHead_12 ?_
  obtain ⟨q_1, hq_1, h⟩ := op_b h
  have hgr_2 : phSB q_1 ≤ phSB r := nSc_writeHead_17 (niSc_writeHead n) _ _ _ _ h
  have hg2_3 : phSB o2 ≤ phSB q_1 := nSB_appendS_S6 _ _ hq_1
  refine cf_callR (wc := wSB K h2 a2 o2) (wr := wSc K h0 (fun _ => h2) o0 ++ wNl K h1 a1 o1) (va_runV (As := [.ref (K 106)]) (rest := []) ⟨hx, hb, hml, hown, hts⟩ (mSB_appendS_S6 l D K _ h2 a2 o2 _ hq_1) (cwV 1 hts (cf_GV wv_1793 wv_1555 wv_1556 wv_167 wv_1557) rfl rfl rfl (by decide +kernel) ⟨Nat.le_of_ble_eq_true rfl, Nat.le_of_ble_eq_true rfl⟩) (cf_preV (wc := wSB K h2 a2 o2) hE hP hD hS hA rfl 14 rfl [14, 15] rfl (by decide +kernel)) rfl rfl hl.1 rfl (lv_room (Nat.le_of_ble_eq_true rfl)) dSc_writeHead_14 ⟨Nat.le_trans (gC_add hg hg2_3) (gC_le hgr_2), Nat.le_trans (gS_add hg hg2_3) (gS_le hgr_2)⟩) hP hD hS hA [14, 15] [0, 1, 2, 3, 4, 5, 6, 7, 8, 9, 10, 11, 12, 13] rfl rfl (by decide +kernel) (by decide +kernel) (fun a2_5 H locs hw_4 hP hD hS => ?_)
  have hP : va_P D vwCl (wSc K h0 (fun _ => h2) o0 ++ wNl K h1 a1 o1 ++ wSB K h2 a2_5 q_1) H := hP.sub [0, 1, 2, 3, 4, 5, 6, 7, 8, 9, 10, 11, 12, 13, 14, 15] rfl
  have hD : va_D A (wSc K h0 (fun _ => h2) o0 ++ wNl K h1 a1 o1 ++ wSB K h2 a2_5 q_1) := hD.sub [0, 1, 2, 3, 4, 5, 6, 7, 8, 9, 10, 11, 12, 13, 14, 15] (by decide +kernel) rfl
  refine W.widen (k := (gC (phSB os) (phSB q_1))) (n := (gS (phSB os) (phSB q_1))) (gC_add hg hg2_3) (gS_add hg hg2_3) ?_
  have hg : phSB os ≤ phSB q_1 := Nat.le_trans hg hg2_3
  exact bSc_writeHead_17 C ih _ _ _ _ h hg hP hD hS (lv_sub hl [0, 1] rfl)
set_option maxHeartbeats 4000000 in
set_option maxRecDepth 100000 in
theorem bSc_writeHead_0 {p : Program} {l : Launch} {e : Env} {s : State} {m : MethodId} {below : List Frame} {meth : Method} {c : Code} {A : Nat → Prop} {D : va_G} {K : Nat → ClassId} {h0 : Nat} {h1 : Nat} {a1 : Nat → Nat} {h2 : Nat} {os : cf_O} {AR : Array Value} (C : (dc_C p s m AR meth c cSc_writeHead 3 (Option.none : Option Jvm.ClassFile.FieldType) ySc_writeHead ∧ cf_E D K A s s.heap ∧ ∀ q, s.heap.size ≤ q → A q)) {n : Nat} (ih : IhSc_writeHead p l e s m below meth c A D K h0 h1 a1 h2 os AR n) (o0 : cf_O) (o1 : cf_O) (o2 : cf_O) (r : cf_O) (h : fSc_writeHead_0 (gSc_writeHead n) o0 o1 o2 = some r) {a2 : Nat → Nat} {H : Heap} {locs : List Loc} {ls : Array Slot} (hg : phSB os ≤ phSB o2) (hP : va_P D vwCl (wSc K h0 (fun _ => h2) o0 ++ wNl K h1 a1 o1 ++ wSB K h2 a2 o2) H) (hD : va_D A (wSc K h0 (fun _ => h2) o0 ++ wNl K h1 a1 o1 ++ wSB K h2 a2 o2)) (hS : va_S A s.heap H locs) (hl : lv_has ls 3 [(0, .ref h0), (1, .ref h1)]) : W p l e ({ frames := 7, cells := (gC (phSB os) (phSB r)), slots := (gS (phSB os) (phSB r)), locals := 190 }) s m AR below meth c H locs (gC (phSB os) (phSB o2)) (gS (phSB os) (phSB o2)) (MQ below (va_Qv (fun (_ : Nat → Nat) => True) (fun (u : Nat → Nat) t => cf_At D A (wSc K h0 (fun _ => h2) o0 ++ wNl K h1 a1 o1 ++ wSB K h2 u r) t) A) AR s (gC (phSB os) (phSB r)) (gS (phSB os) (phSB r)) A) (F0 m 0 ls []) := by
  obtain ⟨⟨hx, hb, hr, hts, hown, hlocks, hin, hml⟩, hE, hA⟩ := id C
  have hK := hE.k
  refine lv_aload_n hx hb dSc_writeHead_0 rfl (lv_at hl 0 rfl) ?_
  refine va_get (D := D) (ci := 10) (v := .ref h2) (C := RSc) (T := TSc) (N := 2) hx hb hts inSc hown hK hP 0 rfl rfl 1 (by decide) (hts _ wv_469) (fun _ h9 => h9) rfl dSc_writeHead_1 ?_
  refine lv_iconst (v := 0) hx hb dSc_writeHead_4 (by decide) ?_
  obtain ⟨q_1, hq_1, h⟩ := op_b h
  have hgr_2 : phSB q_1 ≤ phSB r := nSc_writeHead_8 (niSc_writeHead n) _ _ _ _ h
  have hg2_3 : phSB o2 ≤ phSB q_1 := nSB_setLength _ _ _ hq_1
  refine cf_callv (wc := wSB K h2 a2 o2) (wr := wSc K h0 (fun _ => h2) o0 ++ wNl K h1 a1 o1) (va_runV (As := [.int 0]) (rest := []) ⟨hx, hb, hml, hown, hts⟩ (mSB_setLength l D K _ 0 h2 a2 o2 _ hq_1) (cwV 1 hts (cf_GV wv_1539 wv_1540 wv_1541 wv_167 wv_1542) rfl rfl rfl (by decide +kernel) ⟨Nat.le_of_ble_eq_true rfl, Nat.le_of_ble_eq_true rfl⟩) (cf_preV (wc := wSB K h2 a2 o2) hE hP hD hS hA rfl 14 rfl [14, 15] rfl (by decide +kernel)) rfl rfl hl.1 rfl (lv_room (Nat.le_of_ble_eq_true rfl)) dSc_writeHead_5 ⟨Nat.le_trans (gC_add hg hg2_3) (gC_le hgr_2), Nat.le_trans (gS_add hg hg2_3) (gS_le hgr_2)⟩) hP hD hS hA [14, 15] [0, 1, 2, 3, 4, 5, 6, 7, 8, 9, 10, 11, 12, 13] rfl rfl (by decide +kernel) (by decide +kernel) (fun a2_5 H locs hw_4 hP hD hS => ?_)
  have hP : va_P D vwCl (wSc K h0 (fun _ => h2) o0 ++ wNl K h1 a1 o1 ++ wSB K h2 a2_5 q_1) H := hP.sub [0, 1, 2, 3, 4, 5, 6, 7, 8, 9, 10, 11, 12, 13, 14, 15] rfl
  have hD : va_D A (wSc K h0 (fun _ => h2) o0 ++ wNl K h1 a1 o1 ++ wSB K h2 a2_5 q_1) := hD.sub [0, 1, 2, 3, 4, 5, 6, 7, 8, 9, 10, 11, 12, 13, 14, 15] (by decide +kernel) rfl
  refine W.widen (k := (gC (phSB os) (phSB q_1))) (n := (gS (phSB os) (phSB q_1))) (gC_add hg hg2_3) (gS_add hg hg2_3) ?_
  have hg : phSB os ≤ phSB q_1 := Nat.le_trans hg hg2_3
  exact bSc_writeHead_8 C ih _ _ _ _ h hg hP hD hS (lv_sub hl [0, 1] rfl)
theorem iSc_writeHead {p : Program} {l : Launch} {e : Env} {s : State} {m : MethodId} {below : List Frame} {meth : Method} {c : Code} {A : Nat → Prop} {D : va_G} {K : Nat → ClassId} {h0 : Nat} {h1 : Nat} {a1 : Nat → Nat} {h2 : Nat} {os : cf_O} {AR : Array Value} (C : (dc_C p s m AR meth c cSc_writeHead 3 (Option.none : Option Jvm.ClassFile.FieldType) ySc_writeHead ∧ cf_E D K A s s.heap ∧ ∀ q, s.heap.size ≤ q → A q)) : ∀ n, IhSc_writeHead p l e s m below meth c A D K h0 h1 a1 h2 os AR n := by
  intro n
  induction n with
  | zero => exact ⟨(fun _ _ _ _ r h => by cases (show none = some r from h)), (fun _ _ _ _ r h => by cases (show none = some r from h))⟩
  | succ n ih => exact ⟨fun x0 x1 x2 x3 r h _ _ _ _ hg hP hD hS hl => bSc_writeHead_20 C ih x0 x1 x2 x3 r h hg hP hD hS hl, fun x0 x1 x2 x3 r h _ _ _ _ hg hP hD hS hl => bSc_writeHead_56 C ih x0 x1 x2 x3 r h hg hP hD hS hl⟩
set_option maxRecDepth 100000 in
theorem mSc_writeHead (l : Launch) (D : va_G) (K : Nat → ClassId) (sz : Nat) (h0 : Nat) (h1 : Nat) (a1 : Nat → Nat) (h2 : Nat) (a2 : Nat → Nat) (o0 : cf_O) (o1 : cf_O) (o2 : cf_O) (r : cf_O) (h : fSc_writeHead o0 o1 o2 = some r) : Met l ySc_writeHead (Cond.code ySc_writeHead cSc_writeHead 3 (Option.none : Option Jvm.ClassFile.FieldType) :: cfB) ({ frames := 7, cells := (gC (phSB o2) (phSB r)), slots := (gS (phSB o2) (phSB r)), locals := 190 }) (va_Pc [.ref h0, .ref h1] (cf_Pre D K sz (wSc K h0 (fun _ => h2) o0 ++ wNl K h1 a1 o1 ++ wSB K h2 a2 o2))) (va_Qv (fun (_ : Nat → Nat) => True) (fun (u : Nat → Nat) t => cf_At D (va_A (wSc K h0 (fun _ => h2) o0 ++ wNl K h1 a1 o1 ++ wSB K h2 a2 o2) sz) (wSc K h0 (fun _ => h2) o0 ++ wNl K h1 a1 o1 ++ wSB K h2 u r) t) (va_A (wSc K h0 (fun _ => h2) o0 ++ wNl K h1 a1 o1 ++ wSB K h2 a2 o2) sz)) (gC (phSB o2) (phSB r)) (gS (phSB o2) (phSB r)) (va_A (wSc K h0 (fun _ => h2) o0 ++ wNl K h1 a1 o1 ++ wSB K h2 a2 o2) sz) := by
  refine cf_ofW (y := ySc_writeHead) (As := [.ref h0, .ref h1]) (WS := wSc K h0 (fun _ => h2) o0 ++ wNl K h1 a1 o1 ++ wSB K h2 a2 o2) (maxL := 3) (fun A => (va_Qv (fun (_ : Nat → Nat) => True) (fun (u : Nat → Nat) t => cf_At D A (wSc K h0 (fun _ => h2) o0 ++ wNl K h1 a1 o1 ++ wSB K h2 u r) t) A)) (by decide) (Nat.le_of_ble_eq_true rfl) ?_
  intro p e s m below meth c A ls En hsz hA hP hD hE hS hl
  have C : (dc_C p s m (([.ref h0, .ref h1] : List Value).toArray) meth c cSc_writeHead 3 (Option.none : Option Jvm.ClassFile.FieldType) ySc_writeHead ∧ cf_E D K A s s.heap ∧ ∀ q, s.heap.size ≤ q → A q) := ⟨En, hE, hA⟩
  refine W.widen (k := gC (phSB o2) (phSB o2)) (n := gS (phSB o2) (phSB o2)) (Nat.zero_le _) (Nat.zero_le _) ?_
  exact bSc_writeHead_0 C (iSc_writeHead C cfFU) o0 o1 o2 r h (Nat.le_refl _) hP hD hS hl
set_option maxHeartbeats 4000000 in
set_option maxRecDepth 100000 in
theorem bJString_coder__S8_14 {p : Program} {l : Launch} {e : Env} {s : State} {m : MethodId} {below : List Frame} {meth : Method} {c : Code} {A : Nat → Prop} {D : va_G} {K : Nat → ClassId} {AR : Array Value} (C : (dc_C p s m AR meth c cJString_coder_ 1 (Option.some Jvm.ClassFile.FieldType.byte) yJString_coder_ ∧ cf_E D K A s s.heap ∧ ∀ q, s.heap.size ≤ q → A q)) (s0 : Int32) (r : Int32) (h : fJString_coder__S8_14 s0 = some r) {H : Heap} {locs : List Loc} {ls : Array Slot} (hP : va_P D vwCl ([]) H) (hD : va_D A ([])) (hS : va_S A s.heap H locs) (hl : lv_has ls 1 []) : W p l e ({ frames := 0, cells := 0, slots := 0, locals := 0 }) s m AR below meth c H locs 0 0 (MQ below (va_Qi (fun (x : Int32) (_ : Unit) => x = r) (fun (_ : Unit) t => cf_At D A ([]) t) A) AR s 0 0 A) (F0 m 14 ls [.int s0]) := by
  obtain ⟨⟨hx, hb, hr, hts, hown, hlocks, hin, hml⟩, hE, hA⟩ := id C
  have hK := hE.k
  obtain ⟨hz_1, h⟩ := op_w h
  obtain rfl := Option.some.inj h
  exact dc_zretn hx hb hr (op_nb hz_1) hlocks rfl hP hD hS dJString_coder__14
set_option maxHeartbeats 4000000 in
set_option maxRecDepth 100000 in
theorem bJString_coder__S8_0 {p : Program} {l : Launch} {e : Env} {s : State} {m : MethodId} {below : List Frame} {meth : Method} {c : Code} {A : Nat → Prop} {D : va_G} {K : Nat → ClassId} {AR : Array Value} (C : (dc_C p s m AR meth c cJString_coder_ 1 (Option.some Jvm.ClassFile.FieldType.byte) yJString_coder_ ∧ cf_E D K A s s.heap ∧ ∀ q, s.heap.size ≤ q → A q)) (r : Int32) (h : fJString_coder__S8_0 = some r) {H : Heap} {locs : List Loc} {ls : Array Slot} (hP : va_P D vwCl ([]) H) (hD : va_D A ([])) (hS : va_S A s.heap H locs) (hl : lv_has ls 1 [(0, .ref (K 108))]) : W p l e ({ frames := 0, cells := 0, slots := 0, locals := 0 }) s m AR below meth c H locs 0 0 (MQ below (va_Qi (fun (x : Int32) (_ : Unit) => x = r) (fun (_ : Unit) t => cf_At D A ([]) t) A) AR s 0 0 A) (F0 m 0 ls []) := by
  obtain ⟨⟨hx, hb, hr, hts, hown, hlocks, hin, hml⟩, hE, hA⟩ := id C
  have hK := hE.k
  refine va_gets hx hb hE.2.2.2.2.2.2.1 hS hown (hts _ wv_764) (fun _ h9 => h9) dJString_coder__0 ?_
  refine lv_if_eq (tgt := 13) hx hb dJString_coder__3 (by decide) (fun c_1 => absurd c_1 (by decide)) (fun _ => ?_)
  refine lv_aload_n hx hb dJString_coder__6 rfl (lv_at hl 0 rfl) ?_
  refine vk_getf hx hb (hE.s 8 rfl).2.2.1 hS hown (hts _ wv_1736) (fun _ h9 => h9) dJString_coder__7 ?_
  refine lv_goto (tgt := 14) hx hb dJString_coder__10 (by decide) ?_
  exact bJString_coder__S8_14 C _ _ h hP hD hS (lv_sub hl [] rfl)
set_option maxRecDepth 100000 in
theorem mJString_coder__S8 (l : Launch) (D : va_G) (K : Nat → ClassId) (sz : Nat) (r : Int32) (h : fJString_coder__S8 = some r) : Met l yJString_coder_ (Cond.code yJString_coder_ cJString_coder_ 1 (Option.some Jvm.ClassFile.FieldType.byte) :: cfB) ({ frames := 0, cells := 0, slots := 0, locals := 0 }) (va_Pc [.ref (K 108)] (cf_Pre D K sz ([]))) (va_Qi (fun (x : Int32) (_ : Unit) => x = r) (fun (_ : Unit) t => cf_At D (va_A ([]) sz) ([]) t) (va_A ([]) sz)) 0 0 (va_A ([]) sz) := by
  refine cf_ofW (y := yJString_coder_) (As := [.ref (K 108)]) (WS := []) (maxL := 1) (fun A => (va_Qi (fun (x : Int32) (_ : Unit) => x = r) (fun (_ : Unit) t => cf_At D A ([]) t) A)) (by decide) (Nat.le_of_ble_eq_true rfl) ?_
  intro p e s m below meth c A ls En hsz hA hP hD hE hS hl
  have C : (dc_C p s m (([.ref (K 108)] : List Value).toArray) meth c cJString_coder_ 1 (Option.some Jvm.ClassFile.FieldType.byte) yJString_coder_ ∧ cf_E D K A s s.heap ∧ ∀ q, s.heap.size ≤ q → A q) := ⟨En, hE, hA⟩
  exact bJString_coder__S8_0 C r h hP hD hS hl
set_option maxHeartbeats 4000000 in
set_option maxRecDepth 100000 in
theorem bJString_length__S8_0 {p : Program} {l : Launch} {e : Env} {s : State} {m : MethodId} {below : List Frame} {meth : Method} {c : Code} {A : Nat → Prop} {D : va_G} {K : Nat → ClassId} {AR : Array Value} (C : (dc_C p s m AR meth c cJString_length_ 1 (Option.some Jvm.ClassFile.FieldType.int) yJString_length_ ∧ cf_E D K A s s.heap ∧ ∀ q, s.heap.size ≤ q → A q)) (r : Int32) (h : fJString_length__S8_0 = some r) {H : Heap} {locs : List Loc} {ls : Array Slot} (hP : va_P D vwCl ([]) H) (hD : va_D A ([])) (hS : va_S A s.heap H locs) (hl : lv_has ls 1 [(0, .ref (K 108))]) : W p l e ({ frames := 1, cells := 0, slots := 0, locals := 20 }) s m AR below meth c H locs 0 0 (MQ below (va_Qi (fun (x : Int32) (_ : Unit) => x = r) (fun (_ : Unit) t => cf_At D A ([]) t) A) AR s 0 0 A) (F0 m 0 ls []) := by
  obtain ⟨⟨hx, hb, hr, hts, hown, hlocks, hin, hml⟩, hE, hA⟩ := id C
  have hK := hE.k
  refine lv_aload_n hx hb dJString_length__0 rfl (lv_at hl 0 rfl) ?_
  refine vk_getf hx hb (hE.s 8 rfl).2.2.2.1 hS hown (hts _ wv_1735) (fun _ h9 => h9) dJString_length__1 ?_
  refine va_tlen (v := 6) hx hb (hE.s 8 rfl).2.2.2.2 hS rfl dJString_length__4 ?_
  refine lv_aload_n hx hb dJString_length__5 rfl (lv_at hl 0 rfl) ?_
  obtain ⟨q_1, hq_1, h⟩ := op_b h
  refine cf_calli (wc := []) (wr := []) (va_runV (As := []) (rest := [.int 6]) ⟨hx, hb, hml, hown, hts⟩ (mJString_coder__S8 l D K _ _ hq_1) (cwV 0 hts (cf_GV wv_760 wv_761 wv_762 wv_168 wv_763) rfl rfl rfl (by decide +kernel) ⟨Nat.le_of_ble_eq_true rfl, Nat.le_of_ble_eq_true rfl⟩) (cf_preO (wc := []) (hE.s 8 rfl).2.1 hE hP hD hS hA [] rfl (by decide +kernel)) rfl rfl hl.1 rfl (lv_room (Nat.le_of_ble_eq_true rfl)) dJString_length__6 ⟨Nat.le_of_ble_eq_true rfl, Nat.le_of_ble_eq_true rfl⟩) hP hD hS hA [] [] rfl rfl (by decide +kernel) (by decide +kernel) (fun r_2 _ H locs hw_3 hP hD hS => ?_)
  subst r_2
  have hP : va_P D vwCl ([]) H := hP.sub [] rfl
  have hD : va_D A ([]) := hD.sub [] (by decide +kernel) rfl
  refine lv_ishr hx hb dJString_length__9 ?_
  refine lv_topi (fun x_4 ex_4 => ?_)
  have h := op_ks ex_4 h
  obtain rfl := Option.some.inj h
  exact dc_iret hx hb hr hlocks rfl hP hD hS dJString_length__10
set_option maxRecDepth 100000 in
theorem mJString_length__S8 (l : Launch) (D : va_G) (K : Nat → ClassId) (sz : Nat) (r : Int32) (h : fJString_length__S8 = some r) : Met l yJString_length_ (Cond.code yJString_length_ cJString_length_ 1 (Option.some Jvm.ClassFile.FieldType.int) :: cfB) ({ frames := 1, cells := 0, slots := 0, locals := 20 }) (va_Pc [.ref (K 108)] (cf_Pre D K sz ([]))) (va_Qi (fun (x : Int32) (_ : Unit) => x = r) (fun (_ : Unit) t => cf_At D (va_A ([]) sz) ([]) t) (va_A ([]) sz)) 0 0 (va_A ([]) sz) := by
  refine cf_ofW (y := yJString_length_) (As := [.ref (K 108)]) (WS := []) (maxL := 1) (fun A => (va_Qi (fun (x : Int32) (_ : Unit) => x = r) (fun (_ : Unit) t => cf_At D A ([]) t) A)) (by decide) (Nat.le_of_ble_eq_true rfl) ?_
  intro p e s m below meth c A ls En hsz hA hP hD hE hS hl
  have C : (dc_C p s m (([.ref (K 108)] : List Value).toArray) meth c cJString_length_ 1 (Option.some Jvm.ClassFile.FieldType.int) yJString_length_ ∧ cf_E D K A s s.heap ∧ ∀ q, s.heap.size ≤ q → A q) := ⟨En, hE, hA⟩
  exact bJString_length__S8_0 C r h hP hD hS hl
set_option maxHeartbeats 4000000 in
set_option maxRecDepth 100000 in
theorem bAS_inflateIfNeededFor_S8_21 {p : Program} {l : Launch} {e : Env} {s : State} {m : MethodId} {below : List Frame} {meth : Method} {c : Code} {A : Nat → Prop} {D : va_G} {K : Nat → ClassId} {h0 : Nat} {a0 : Nat → Nat} {AR : Array Value} (C : (dc_C p s m AR meth c cAS_inflateIfNeededFor 2 (Option.none : Option Jvm.ClassFile.FieldType) yAS_inflateIfNeededFor ∧ cf_E D K A s s.heap ∧ ∀ q, s.heap.size ≤ q → A q)) (o0 : cf_O) (r : Unit) (h : fAS_inflateIfNeededFor_S8_21 o0 = some r) {H : Heap} {locs : List Loc} {ls : Array Slot} (hP : va_P D vwCl (wSB K h0 a0 o0) H) (hD : va_D A (wSB K h0 a0 o0)) (hS : va_S A s.heap H locs) (hl : lv_has ls 2 []) : W p l e ({ frames := 1, cells := 0, slots := 0, locals := 20 }) s m AR below meth c H locs 0 0 (MQ below (va_Qv (fun (_ : Unit) => True) (fun (_ : Unit) t => cf_At D A (wSB K h0 a0 o0) t) A) AR s 0 0 A) (F0 m 21 ls []) := by
  obtain ⟨⟨hx, hb, hr, hts, hown, hlocks, hin, hml⟩, hE, hA⟩ := id C
  have hK := hE.k
  obtain rfl := Option.some.inj h
  exact dc_vret hx hb hr hlocks rfl hP hD hS dAS_inflateIfNeededFor_21
set_option maxHeartbeats 4000000 in
set_option maxRecDepth 100000 in
theorem bAS_inflateIfNeededFor_S8_0 {p : Program} {l : Launch} {e : Env} {s : State} {m : MethodId} {below : List Frame} {meth : Method} {c : Code} {A : Nat → Prop} {D : va_G} {K : Nat → ClassId} {h0 : Nat} {a0 : Nat → Nat} {AR : Array Value} (C : (dc_C p s m AR meth c cAS_inflateIfNeededFor 2 (Option.none : Option Jvm.ClassFile.FieldType) yAS_inflateIfNeededFor ∧ cf_E D K A s s.heap ∧ ∀ q, s.heap.size ≤ q → A q)) (o0 : cf_O) (r : Unit) (h : fAS_inflateIfNeededFor_S8_0 o0 = some r) {H : Heap} {locs : List Loc} {ls : Array Slot} (hP : va_P D vwCl (wSB K h0 a0 o0) H) (hD : va_D A (wSB K h0 a0 o0)) (hS : va_S A s.heap H locs) (hl : lv_has ls 2 [(0, .ref h0), (1, .ref (K 108))]) : W p l e ({ frames := 1, cells := 0, slots := 0, locals := 20 }) s m AR below meth c H locs 0 0 (MQ below (va_Qv (fun (_ : Unit) => True) (fun (_ : Unit) t => cf_At D A (wSB K h0 a0 o0) t) A) AR s 0 0 A) (F0 m 0 ls []) := by
  obtain ⟨⟨hx, hb, hr, hts, hown, hlocks, hin, hml⟩, hE, hA⟩ := id C
  have hK := hE.k
  refine va_gets hx hb hE.2.2.2.2.2.2.1 hS hown (hts _ wv_444) (fun _ h9 => h9) dAS_inflateIfNeededFor_0 ?_
  refine lv_if_eq (tgt := 21) hx hb dAS_inflateIfNeededFor_3 (by decide) (fun c_1 => absurd c_1 (by decide)) (fun _ => ?_)
  refine lv_aload_n hx hb dAS_inflateIfNeededFor_6 rfl (lv_at hl 0 rfl) ?_
  refine va_get (D := D) (ci := 13) (v := .int (o0.1 1)) (C := RSB) (T := TSB) (N := 4) hx hb hts inSB hown hK hP 0 rfl rfl 1 (by decide) (hts _ wv_454) (fun _ h9 => h9) rfl dAS_inflateIfNeededFor_7 ?_
  refine lv_aload_n hx hb dAS_inflateIfNeededFor_10 rfl (lv_at hl 1 rfl) ?_
  obtain ⟨q_2, hq_2, h⟩ := op_b h
  refine cf_calli (wc := []) (wr := wSB K h0 a0 o0) (va_runV (As := []) (rest := [.int (o0.1 1)]) ⟨hx, hb, hml, hown, hts⟩ (mJString_coder__S8 l D K _ _ hq_2) (cwV 0 hts (cf_GV wv_1619 wv_761 wv_762 wv_168 wv_763) rfl rfl rfl (by decide +kernel) ⟨Nat.le_of_ble_eq_true rfl, Nat.le_of_ble_eq_true rfl⟩) (cf_preO (wc := []) (hE.s 8 rfl).2.1 hE hP hD hS hA [] rfl (by decide +kernel)) rfl rfl hl.1 rfl (lv_room (Nat.le_of_ble_eq_true rfl)) dAS_inflateIfNeededFor_11 ⟨Nat.le_of_ble_eq_true rfl, Nat.le_of_ble_eq_true rfl⟩) hP hD hS hA [] [0, 1] rfl rfl (by decide +kernel) (by decide +kernel) (fun r_3 _ H locs hw_4 hP hD hS => ?_)
  subst r_3
  have hP : va_P D vwCl (wSB K h0 a0 o0) H := hP.sub [0, 1] rfl
  have hD : va_D A (wSB K h0 a0 o0) := hD.sub [0, 1] (by decide +kernel) rfl
  refine lv_icmp_eq (tgt := 21) hx hb dAS_inflateIfNeededFor_14 (by decide) (fun c_5 => ?_) (fun c_5 => ?_)
  · have h := op_t c_5 h
    exact bAS_inflateIfNeededFor_S8_21 C _ _ h hP hD hS (lv_sub hl [] rfl)
  · have h := op_f c_5 h
    refine lv_aload_n hx hb dAS_inflateIfNeededFor_17 rfl (lv_at hl 0 rfl) ?_
    cases h
set_option maxRecDepth 100000 in
theorem mAS_inflateIfNeededFor_S8 (l : Launch) (D : va_G) (K : Nat → ClassId) (sz : Nat) (h0 : Nat) (a0 : Nat → Nat) (o0 : cf_O) (r : Unit) (h : fAS_inflateIfNeededFor_S8 o0 = some r) : Met l yAS_inflateIfNeededFor (Cond.code yAS_inflateIfNeededFor cAS_inflateIfNeededFor 2 (Option.none : Option Jvm.ClassFile.FieldType) :: cfB) ({ frames := 1, cells := 0, slots := 0, locals := 20 }) (va_Pc [.ref h0, .ref (K 108)] (cf_Pre D K sz (wSB K h0 a0 o0))) (va_Qv (fun (_ : Unit) => True) (fun (_ : Unit) t => cf_At D (va_A (wSB K h0 a0 o0) sz) (wSB K h0 a0 o0) t) (va_A (wSB K h0 a0 o0) sz)) 0 0 (va_A (wSB K h0 a0 o0) sz) := by
  refine cf_ofW (y := yAS_inflateIfNeededFor) (As := [.ref h0, .ref (K 108)]) (WS := wSB K h0 a0 o0) (maxL := 2) (fun A => (va_Qv (fun (_ : Unit) => True) (fun (_ : Unit) t => cf_At D A (wSB K h0 a0 o0) t) A)) (by decide) (Nat.le_of_ble_eq_true rfl) ?_
  intro p e s m below meth c A ls En hsz hA hP hD hE hS hl
  have C : (dc_C p s m (([.ref h0, .ref (K 108)] : List Value).toArray) meth c cAS_inflateIfNeededFor 2 (Option.none : Option Jvm.ClassFile.FieldType) yAS_inflateIfNeededFor ∧ cf_E D K A s s.heap ∧ ∀ q, s.heap.size ≤ q → A q) := ⟨En, hE, hA⟩
  exact bAS_inflateIfNeededFor_S8_0 C o0 r h hP hD hS hl
set_option maxRecDepth 100000 in
theorem nJString_getBytes_ABIB_S8_SB0_0 (v2 : Int32) (v3 : Int32) (o0 : cf_O) (r : cf_O) (h : fJString_getBytes_ABIB_S8_SB0_0 v2 v3 o0 = some r) : phSB o0 ≤ phSB r := by
  have hm : phSB o0 ≤ phSB o0 := Nat.le_refl _
  obtain ⟨q_1, hq_1, h⟩ := op_b h
  rcases (Classical.em (q_1 = v3)).symm with c_4 | c_4
  · have h := op_f c_4 h
    cases h
  · have h := op_t c_4 h
    obtain ⟨x_5, ex_5, h⟩ := op_kx h
    obtain ⟨hi_6, h⟩ := op_n h
    obtain ⟨o_7, eo_7, h⟩ := op_kx h
    have hm : phSB o0 ≤ phSB o_7 := by rw [eo_7]; exact hm
    obtain rfl := Option.some.inj h
    exact hm
theorem nJString_getBytes_ABIB_S8_SB0 (v2 : Int32) (v3 : Int32) (o0 : cf_O) (r : cf_O) (h : fJString_getBytes_ABIB_S8_SB0 v2 v3 o0 = some r) : phSB o0 ≤ phSB r := nJString_getBytes_ABIB_S8_SB0_0  v2 v3 o0 r h
set_option maxHeartbeats 4000000 in
set_option maxRecDepth 100000 in
theorem bJString_getBytes_ABIB_S8_SB0_0 {p : Program} {l : Launch} {e : Env} {s : State} {m : MethodId} {below : List Frame} {meth : Method} {c : Code} {A : Nat → Prop} {D : va_G} {K : Nat → ClassId} {h0 : Nat} {a0 : Nat → Nat} {AR : Array Value} (C : (dc_C p s m AR meth c cJString_getBytes_ABIB 4 (Option.none : Option Jvm.ClassFile.FieldType) yJString_getBytes_ABIB ∧ cf_E D K A s s.heap ∧ ∀ q, s.heap.size ≤ q → A q)) (v2 : Int32) (v3 : Int32) (o0 : cf_O) (r : cf_O) (h : fJString_getBytes_ABIB_S8_SB0_0 v2 v3 o0 = some r) {H : Heap} {locs : List Loc} {ls : Array Slot} (hP : va_P D vwCl (wSB K h0 a0 o0) H) (hD : va_D A (wSB K h0 a0 o0)) (hS : va_S A s.heap H locs) (hl : lv_has ls 4 [(0, .ref (K 108)), (1, .ref (a0 0)), (2, .int v2), (3, .int v3)]) : W p l e ({ frames := 1, cells := 0, slots := 0, locals := 60 }) s m AR below meth c H locs 0 0 (MQ below (va_Qv (fun (_ : Unit) => True) (fun (_ : Unit) t => cf_At D A (wSB K h0 a0 r) t) A) AR s 0 0 A) (F0 m 0 ls []) := by
  obtain ⟨⟨hx, hb, hr, hts, hown, hlocks, hin, hml⟩, hE, hA⟩ := id C
  have hK := hE.k
  refine lv_aload_n hx hb dJString_getBytes_ABIB_0 rfl (lv_at hl 0 rfl) ?_
  obtain ⟨q_1, hq_1, h⟩ := op_b h
  refine cf_calli (wc := []) (wr := wSB K h0 a0 o0) (va_runV (As := []) (rest := []) ⟨hx, hb, hml, hown, hts⟩ (mJString_coder__S8 l D K _ _ hq_1) (cwV 0 hts (cf_GV wv_760 wv_761 wv_762 wv_168 wv_763) rfl rfl rfl (by decide +kernel) ⟨Nat.le_of_ble_eq_true rfl, Nat.le_of_ble_eq_true rfl⟩) (cf_preO (wc := []) (hE.s 8 rfl).2.1 hE hP hD hS hA [] rfl (by decide +kernel)) rfl rfl hl.1 rfl (lv_room (Nat.le_of_ble_eq_true rfl)) dJString_getBytes_ABIB_1 ⟨Nat.le_of_ble_eq_true rfl, Nat.le_of_ble_eq_true rfl⟩) hP hD hS hA [] [0, 1] rfl rfl (by decide +kernel) (by decide +kernel) (fun r_2 _ H locs hw_3 hP hD hS => ?_)
  subst r_2
  have hP : va_P D vwCl (wSB K h0 a0 o0) H := hP.sub [0, 1] rfl
  have hD : va_D A (wSB K h0 a0 o0) := hD.sub [0, 1] (by decide +kernel) rfl
  refine lv_iload_n hx hb dJString_getBytes_ABIB_4 rfl (lv_at hl 3 rfl) ?_
  refine lv_icmp_ne (tgt := 28) hx hb dJString_getBytes_ABIB_5 (by decide) (fun c_4 => ?_) (fun c_4 => ?_)
  · have h := op_f c_4 h
    refine lv_aload_n hx hb dJString_getBytes_ABIB_28 rfl (lv_at hl 0 rfl) ?_
    refine vk_getf hx hb (hE.s 8 rfl).2.2.2.1 hS hown (hts _ wv_1735) (fun _ h9 => h9) dJString_getBytes_ABIB_29 ?_
    refine lv_iconst (v := 0) hx hb dJString_getBytes_ABIB_32 (by decide) ?_
    refine lv_aload_n hx hb dJString_getBytes_ABIB_33 rfl (lv_at hl 1 rfl) ?_
    refine lv_iload_n hx hb dJString_getBytes_ABIB_34 rfl (lv_at hl 2 rfl) ?_
    refine lv_aload_n hx hb dJString_getBytes_ABIB_35 rfl (lv_at hl 0 rfl) ?_
    refine vk_getf hx hb (hE.s 8 rfl).2.2.2.1 hS hown (hts _ wv_1735) (fun _ h9 => h9) dJString_getBytes_ABIB_36 ?_
    refine va_tlen (v := 6) hx hb (hE.s 8 rfl).2.2.2.2 hS rfl dJString_getBytes_ABIB_39 ?_
    cases h
  · have h := op_t c_4 h
    refine lv_aload_n hx hb dJString_getBytes_ABIB_8 rfl (lv_at hl 0 rfl) ?_
    refine vk_getf hx hb (hE.s 8 rfl).2.2.2.1 hS hown (hts _ wv_1735) (fun _ h9 => h9) dJString_getBytes_ABIB_9 ?_
    refine lv_iconst (v := 0) hx hb dJString_getBytes_ABIB_12 (by decide) ?_
    refine lv_aload_n hx hb dJString_getBytes_ABIB_13 rfl (lv_at hl 1 rfl) ?_
    refine lv_iload_n hx hb dJString_getBytes_ABIB_14 rfl (lv_at hl 2 rfl) ?_
    refine lv_iload_n hx hb dJString_getBytes_ABIB_15 rfl (lv_at hl 3 rfl) ?_
    refine lv_ishl hx hb dJString_getBytes_ABIB_16 ?_
    refine lv_topi (fun x_5 ex_5 => ?_)
    have h := op_ks ex_5 h
    refine lv_aload_n hx hb dJString_getBytes_ABIB_17 rfl (lv_at hl 0 rfl) ?_
    refine vk_getf hx hb (hE.s 8 rfl).2.2.2.1 hS hown (hts _ wv_1735) (fun _ h9 => h9) dJString_getBytes_ABIB_18 ?_
    refine va_tlen (v := 6) hx hb (hE.s 8 rfl).2.2.2.2 hS rfl dJString_getBytes_ABIB_21 ?_
    obtain ⟨hi_6, h⟩ := op_n h
    refine vk_copyt (D := D) (f := cf_sb 8) hx hb (hml.trans hl.1.symm) hown (hts _ wv_1643) (hts _ wv_1295) (hts _ wv_1294) (hts _ wv_187) hK hP hD hS (hE.s 8 rfl).2.2.2.2 1 2 rfl rfl (by decide) (fun z => hi_6 (Or.inl z)) (by decide) (by decide) (Nat.not_lt.mp (fun z => hi_6 (Or.inr z))) (by decide) (Nat.le_of_ble_eq_true rfl) (Nat.le_of_ble_eq_true rfl) dJString_getBytes_ABIB_22 (fun H locs hP hD hS => ?_)
    have hP : va_P D vwCl (wSB K h0 a0 (cb o0 0 8 x_5 6)) H := hP
    have hD : va_D A (wSB K h0 a0 (cb o0 0 8 x_5 6)) := hD
    obtain ⟨o_7, eo_7, h⟩ := op_kx h
    rw [← eo_7] at hP hD
    refine lv_goto (tgt := 43) hx hb dJString_getBytes_ABIB_25 (by decide) ?_
    obtain rfl := Option.some.inj h
    exact dc_vret hx hb hr hlocks rfl hP hD hS dJString_getBytes_ABIB_43
set_option maxRecDepth 100000 in
theorem mJString_getBytes_ABIB_S8_SB0 (l : Launch) (D : va_G) (K : Nat → ClassId) (sz : Nat) (v2 : Int32) (v3 : Int32) (h0 : Nat) (a0 : Nat → Nat) (o0 : cf_O) (r : cf_O) (h : fJString_getBytes_ABIB_S8_SB0 v2 v3 o0 = some r) : Met l yJString_getBytes_ABIB (Cond.code yJString_getBytes_ABIB cJString_getBytes_ABIB 4 (Option.none : Option Jvm.ClassFile.FieldType) :: cfB) ({ frames := 1, cells := 0, slots := 0, locals := 60 }) (va_Pc [.ref (K 108), .ref (a0 0), .int v2, .int v3] (cf_Pre D K sz (wSB K h0 a0 o0))) (va_Qv (fun (_ : Unit) => True) (fun (_ : Unit) t => cf_At D (va_A (wSB K h0 a0 o0) sz) (wSB K h0 a0 r) t) (va_A (wSB K h0 a0 o0) sz)) 0 0 (va_A (wSB K h0 a0 o0) sz) := by
  refine cf_ofW (y := yJString_getBytes_ABIB) (As := [.ref (K 108), .ref (a0 0), .int v2, .int v3]) (WS := wSB K h0 a0 o0) (maxL := 4) (fun A => (va_Qv (fun (_ : Unit) => True) (fun (_ : Unit) t => cf_At D A (wSB K h0 a0 r) t) A)) (by decide) (Nat.le_of_ble_eq_true rfl) ?_
  intro p e s m below meth c A ls En hsz hA hP hD hE hS hl
  have C : (dc_C p s m (([.ref (K 108), .ref (a0 0), .int v2, .int v3] : List Value).toArray) meth c cJString_getBytes_ABIB 4 (Option.none : Option Jvm.ClassFile.FieldType) yJString_getBytes_ABIB ∧ cf_E D K A s s.heap ∧ ∀ q, s.heap.size ≤ q → A q) := ⟨En, hE, hA⟩
  exact bJString_getBytes_ABIB_S8_SB0_0 C v2 v3 o0 r h hP hD hS hl
set_option maxRecDepth 100000 in
theorem nAS_putStringAt_S8_0 (v1 : Int32) (o0 : cf_O) (r : cf_O) (h : fAS_putStringAt_S8_0 v1 o0 = some r) : phSB o0 ≤ phSB r := by
  have hm : phSB o0 ≤ phSB o0 := Nat.le_refl _
  obtain ⟨q_1, hq_1, h⟩ := op_b h
  obtain ⟨q_3, hq_3, h⟩ := op_b h
  have hm : phSB o0 ≤ phSB q_3 := Nat.le_trans hm (nJString_getBytes_ABIB_S8_SB0 _ _ _ _ hq_3)
  obtain rfl := Option.some.inj h
  exact hm
theorem nAS_putStringAt_S8 (v1 : Int32) (o0 : cf_O) (r : cf_O) (h : fAS_putStringAt_S8 v1 o0 = some r) : phSB o0 ≤ phSB r := nAS_putStringAt_S8_0  v1 o0 r h
set_option maxHeartbeats 4000000 in
set_option maxRecDepth 100000 in
theorem bAS_putStringAt_S8_0 {p : Program} {l : Launch} {e : Env} {s : State} {m : MethodId} {below : List Frame} {meth : Method} {c : Code} {A : Nat → Prop} {D : va_G} {K : Nat → ClassId} {h0 : Nat} {a0 : Nat → Nat} {AR : Array Value} (C : (dc_C p s m AR meth c cAS_putStringAt 3 (Option.none : Option Jvm.ClassFile.FieldType) yAS_putStringAt ∧ cf_E D K A s s.heap ∧ ∀ q, s.heap.size ≤ q → A q)) (v1 : Int32) (o0 : cf_O) (r : cf_O) (h : fAS_putStringAt_S8_0 v1 o0 = some r) {H : Heap} {locs : List Loc} {ls : Array Slot} (hP : va_P D vwCl (wSB K h0 a0 o0) H) (hD : va_D A (wSB K h0 a0 o0)) (hS : va_S A s.heap H locs) (hl : lv_has ls 3 [(0, .ref h0), (1, .int v1), (2, .ref (K 108))]) : W p l e ({ frames := 2, cells := 0, slots := 0, locals := 83 }) s m AR below meth c H locs 0 0 (MQ below (va_Qv (fun (_ : Unit) => True) (fun (_ : Unit) t => cf_At D A (wSB K h0 a0 r) t) A) AR s 0 0 A) (F0 m 0 ls []) := by
  obtain ⟨⟨hx, hb, hr, hts, hown, hlocks, hin, hml⟩, hE, hA⟩ := id C
  have hK := hE.k
  refine lv_aload_n hx hb dAS_putStringAt_0 rfl (lv_at hl 0 rfl) ?_
  refine lv_aload_n hx hb dAS_putStringAt_1 rfl (lv_at hl 2 rfl) ?_
  obtain ⟨q_1, hq_1, h⟩ := op_b h
  refine dc_callv (va_runU (As := [.ref (K 108)]) (rest := []) ⟨hx, hb, hml, hown, hts⟩ (mAS_inflateIfNeededFor_S8 l D K _ h0 a0 o0 _ hq_1) (cf_cwU (C := "java/lang/StringBuilder") 1 hts (cf_G1 wv_1618) rfl rfl rfl (hts _ wv_166) (hts _ wv_1615) (hts _ wv_2793) (va_Nw.use rfl (hE.n 32 rfl)) (hts _ wv_1617) (by decide +kernel) ⟨Nat.le_of_ble_eq_true rfl, Nat.le_of_ble_eq_true rfl⟩) (dc_preV hE hP hD hS hA rfl 0 rfl) rfl rfl hl.1 rfl (lv_room (Nat.le_of_ble_eq_true rfl)) dAS_putStringAt_2 ⟨Nat.le_of_ble_eq_true rfl, Nat.le_of_ble_eq_true rfl⟩) hP hD hS hA (fun H locs hP hD hS => ?_)
  refine lv_aload_n hx hb dAS_putStringAt_5 rfl (lv_at hl 2 rfl) ?_
  refine lv_aload_n hx hb dAS_putStringAt_6 rfl (lv_at hl 0 rfl) ?_
  refine va_get (D := D) (ci := 13) (v := .ref (a0 0)) (C := RSB) (T := TSB) (N := 4) hx hb hts inSB hown hK hP 0 rfl rfl 0 (by decide) (hts _ wv_453) (fun _ h9 => h9) rfl dAS_putStringAt_7 ?_
  refine lv_iload_n hx hb dAS_putStringAt_10 rfl (lv_at hl 1 rfl) ?_
  refine lv_aload_n hx hb dAS_putStringAt_11 rfl (lv_at hl 0 rfl) ?_
  refine va_get (D := D) (ci := 13) (v := .int (o0.1 1)) (C := RSB) (T := TSB) (N := 4) hx hb hts inSB hown hK hP 0 rfl rfl 1 (by decide) (hts _ wv_454) (fun _ h9 => h9) rfl dAS_putStringAt_12 ?_
  obtain ⟨q_3, hq_3, h⟩ := op_b h
  refine cf_callv (wc := wSB K h0 a0 o0) (wr := []) (va_runV (As := [.ref (a0 0), .int v1, .int (o0.1 1)]) (rest := []) ⟨hx, hb, hml, hown, hts⟩ (mJString_getBytes_ABIB_S8_SB0 l D K _ v1 (o0.1 1) h0 a0 o0 _ hq_3) (cwV 3 hts (cf_GV wv_1639 wv_1640 wv_1641 wv_168 wv_1642) rfl rfl rfl (by decide +kernel) ⟨Nat.le_of_ble_eq_true rfl, Nat.le_of_ble_eq_true rfl⟩) (cf_preO (wc := wSB K h0 a0 o0) (hE.s 8 rfl).2.1 hE hP hD hS hA [0, 1] rfl (by decide +kernel)) rfl rfl hl.1 rfl (lv_room (Nat.le_of_ble_eq_true rfl)) dAS_putStringAt_15 ⟨Nat.le_of_ble_eq_true rfl, Nat.le_of_ble_eq_true rfl⟩) hP hD hS hA [0, 1] [] rfl rfl (by decide +kernel) (by decide +kernel) (fun _ H locs hw_4 hP hD hS => ?_)
  have hP : va_P D vwCl (wSB K h0 a0 q_3) H := hP.sub [0, 1] rfl
  have hD : va_D A (wSB K h0 a0 q_3) := hD.sub [0, 1] (by decide +kernel) rfl
  obtain rfl := Option.some.inj h
  exact dc_vret hx hb hr hlocks rfl hP hD hS dAS_putStringAt_18
set_option maxRecDepth 100000 in
theorem mAS_putStringAt_S8 (l : Launch) (D : va_G) (K : Nat → ClassId) (sz : Nat) (v1 : Int32) (h0 : Nat) (a0 : Nat → Nat) (o0 : cf_O) (r : cf_O) (h : fAS_putStringAt_S8 v1 o0 = some r) : Met l yAS_putStringAt (Cond.code yAS_putStringAt cAS_putStringAt 3 (Option.none : Option Jvm.ClassFile.FieldType) :: cfB) ({ frames := 2, cells := 0, slots := 0, locals := 83 }) (va_Pc [.ref h0, .int v1, .ref (K 108)] (cf_Pre D K sz (wSB K h0 a0 o0))) (va_Qv (fun (_ : Unit) => True) (fun (_ : Unit) t => cf_At D (va_A (wSB K h0 a0 o0) sz) (wSB K h0 a0 r) t) (va_A (wSB K h0 a0 o0) sz)) 0 0 (va_A (wSB K h0 a0 o0) sz) := by
  refine cf_ofW (y := yAS_putStringAt) (As := [.ref h0, .int v1, .ref (K 108)]) (WS := wSB K h0 a0 o0) (maxL := 3) (fun A => (va_Qv (fun (_ : Unit) => True) (fun (_ : Unit) t => cf_At D A (wSB K h0 a0 r) t) A)) (by decide) (Nat.le_of_ble_eq_true rfl) ?_
  intro p e s m below meth c A ls En hsz hA hP hD hE hS hl
  have C : (dc_C p s m (([.ref h0, .int v1, .ref (K 108)] : List Value).toArray) meth c cAS_putStringAt 3 (Option.none : Option Jvm.ClassFile.FieldType) yAS_putStringAt ∧ cf_E D K A s s.heap ∧ ∀ q, s.heap.size ≤ q → A q) := ⟨En, hE, hA⟩
  exact bAS_putStringAt_S8_0 C v1 o0 r h hP hD hS hl
set_option maxRecDepth 100000 in
theorem nAS_appendS_S8_33 (v2 : Int32) (o0 : cf_O) (r : cf_O) (h : fAS_appendS_S8_33 v2 o0 = some r) : phSB o0 ≤ phSB r := by
  have hm : phSB o0 ≤ phSB o0 := Nat.le_refl _
  obtain ⟨x_1, ex_1, h⟩ := op_kx h
  obtain ⟨o_2, eo_2, h⟩ := op_kx h
  have hm : phSB o0 ≤ phSB o_2 := by rw [eo_2]; exact hm
  obtain rfl := Option.some.inj h
  exact hm
set_option maxRecDepth 100000 in
theorem nAS_appendS_S8_24 (v2 : Int32) (o0 : cf_O) (r : cf_O) (h : fAS_appendS_S8_24 v2 o0 = some r) : phSB o0 ≤ phSB r := by
  have hm : phSB o0 ≤ phSB o0 := Nat.le_refl _
  obtain ⟨q_1, hq_1, h⟩ := op_b h
  have hm : phSB o0 ≤ phSB q_1 := Nat.le_trans hm (nAS_putStringAt_S8 _ _ _ hq_1)
  exact Nat.le_trans hm (nAS_appendS_S8_33 _ _ _ h)
set_option maxRecDepth 100000 in
theorem nAS_appendS_S8_13 (s0 : Int32) (o0 : cf_O) (r : cf_O) (h : fAS_appendS_S8_13 s0 o0 = some r) : phSB o0 ≤ phSB r := by
  have hm : phSB o0 ≤ phSB o0 := Nat.le_refl _
  obtain ⟨x_1, ex_1, h⟩ := op_kx h
  obtain ⟨q_2, hq_2, h⟩ := op_b h
  have hm : phSB o0 ≤ phSB q_2 := Nat.le_trans hm (nAS_ensureCapacityInternal _ _ _ hq_2)
  exact Nat.le_trans hm (nAS_appendS_S8_24 _ _ _ h)
set_option maxRecDepth 100000 in
theorem nAS_appendS_S8_0 (o0 : cf_O) (r : cf_O) (h : fAS_appendS_S8_0 o0 = some r) : phSB o0 ≤ phSB r := by
  have hm : phSB o0 ≤ phSB o0 := Nat.le_refl _
  obtain ⟨q_1, hq_1, h⟩ := op_b h
  exact Nat.le_trans hm (nAS_appendS_S8_13 _ _ _ h)
theorem nAS_appendS_S8 (o0 : cf_O) (r : cf_O) (h : fAS_appendS_S8 o0 = some r) : phSB o0 ≤ phSB r := nAS_appendS_S8_0  o0 r h
set_option maxHeartbeats 4000000 in
set_option maxRecDepth 100000 in
theorem bAS_appendS_S8_33 {p : Program} {l : Launch} {e : Env} {s : State} {m : MethodId} {below : List Frame} {meth : Method} {c : Code} {A : Nat → Prop} {D : va_G} {K : Nat → ClassId} {h0 : Nat} {os : cf_O} {AR : Array Value} (C : (dc_C p s m AR meth c cAS_appendS 3 (Option.some (Jvm.ClassFile.FieldType.object "java/lang/AbstractStringBuilder")) yAS_appendS ∧ cf_E D K A s s.heap ∧ ∀ q, s.heap.size ≤ q → A q)) (v2 : Int32) (o0 : cf_O) (r : cf_O) (h : fAS_appendS_S8_33 v2 o0 = some r) {a0 : Nat → Nat} {H : Heap} {locs : List Loc} {ls : Array Slot} (hg : phSB os ≤ phSB o0) (hP : va_P D vwCl (wSB K h0 a0 o0) H) (hD : va_D A (wSB K h0 a0 o0)) (hS : va_S A s.heap H locs) (hl : lv_has ls 3 [(0, .ref h0), (2, .int v2)]) : W p l e ({ frames := 4, cells := (gC (phSB os) (phSB r)), slots := (gS (phSB os) (phSB r)), locals := 124 }) s m AR below meth c H locs (gC (phSB os) (phSB o0)) (gS (phSB os) (phSB o0)) (MQ below (va_Qr (fun (_ : Nat → Nat) => True) (fun (u : Nat → Nat) q t => cf_At D A (wSB K h0 u r) t ∧ q = h0) A) AR s (gC (phSB os) (phSB r)) (gS (phSB os) (phSB r)) A) (F0 m 33 ls []) := by
  obtain ⟨⟨hx, hb, hr, hts, hown, hlocks, hin, hml⟩, hE, hA⟩ := id C
  have hK := hE.k
  refine lv_aload_n hx hb dAS_appendS_33 rfl (lv_at hl 0 rfl) ?_
  refine lv_dup hx hb dAS_appendS_34 rfl ?_
  refine va_get (D := D) (ci := 13) (v := .int (o0.1 3)) (C := RSB) (T := TSB) (N := 4) hx hb hts inSB hown hK hP 0 rfl rfl 3 (by decide) (hts _ wv_457) (fun _ h9 => h9) rfl dAS_appendS_35 ?_
  refine lv_iload_n hx hb dAS_appendS_38 rfl (lv_at hl 1 rfl) ?_
  refine lv_iadd hx hb dAS_appendS_39 ?_
  refine lv_topi (fun x_1 ex_1 => ?_)
  have h := op_ks ex_1 h
  refine va_put (D := D) (ci := 13) (v := .int x_1) (ty := .int) (C := RSB) (T := TSB) (N := 4) hx hb hts inSB tySB tyokSB nmSB hown hK hP hD hS 0 rfl rfl 3 (by decide) (hts _ wv_457) (fun _ h9 => h9) rfl (by decide +kernel) rfl rfl (Nat.le_of_ble_eq_true rfl) dAS_appendS_40 (fun H locs hP hD hS => ?_)
  have hP : va_P D vwCl (wSB K h0 a0 (fp o0 3 x_1)) H := hP
  have hD : va_D A (wSB K h0 a0 (fp o0 3 x_1)) := hD
  obtain ⟨o_2, eo_2, h⟩ := op_kx h
  rw [← eo_2] at hP hD
  have hf_3 : phSB o_2 = phSB o0 := by rw [eo_2]; rfl
  refine W.widen (k := (gC (phSB os) (phSB o_2))) (n := (gS (phSB os) (phSB o_2))) (by rw [hf_3]; exact Nat.le_refl _) (by rw [hf_3]; exact Nat.le_refl _) ?_
  have hg : phSB os ≤ phSB o_2 := by rw [hf_3]; exact hg
  refine lv_aload_n hx hb dAS_appendS_43 rfl (lv_at hl 0 rfl) ?_
  obtain rfl := Option.some.inj h
  exact dc_aretG a0 hx hb hr ⟨_, rfl⟩ hlocks hP hD hS dAS_appendS_44
set_option maxHeartbeats 4000000 in
set_option maxRecDepth 100000 in
theorem bAS_appendS_S8_24 {p : Program} {l : Launch} {e : Env} {s : State} {m : MethodId} {below : List Frame} {meth : Method} {c : Code} {A : Nat → Prop} {D : va_G} {K : Nat → ClassId} {h0 : Nat} {os : cf_O} {AR : Array Value} (C : (dc_C p s m AR meth c cAS_appendS 3 (Option.some (Jvm.ClassFile.FieldType.object "java/lang/AbstractStringBuilder")) yAS_appendS ∧ cf_E D K A s s.heap ∧ ∀ q, s.heap.size ≤ q → A q)) (v2 : Int32) (o0 : cf_O) (r : cf_O) (h : fAS_appendS_S8_24 v2 o0 = some r) {a0 : Nat → Nat} {H : Heap} {locs : List Loc} {ls : Array Slot} (hg : phSB os ≤ phSB o0) (hP : va_P D vwCl (wSB K h0 a0 o0) H) (hD : va_D A (wSB K h0 a0 o0)) (hS : va_S A s.heap H locs) (hl : lv_has ls 3 [(0, .ref h0), (1, .ref (K 108)), (2, .int v2)]) : W p l e ({ frames := 4, cells := (gC (phSB os) (phSB r)), slots := (gS (phSB os) (phSB r)), locals := 124 }) s m AR below meth c H locs (gC (phSB os) (phSB o0)) (gS (phSB os) (phSB o0)) (MQ below (va_Qr (fun (_ : Nat → Nat) => True) (fun (u : Nat → Nat) q t => cf_At D A (wSB K h0 u r) t ∧ q = h0) A) AR s (gC (phSB os) (phSB r)) (gS (phSB os) (phSB r)) A) (F0 m 24 ls []) := by
  obtain ⟨⟨hx, hb, hr, hts, hown, hlocks, hin, hml⟩, hE, hA⟩ := id C
  have hK := hE.k
  refine lv_aload_n hx hb dAS_appendS_24 rfl (lv_at hl 0 rfl) ?_
  refine lv_aload_n hx hb dAS_appendS_25 rfl (lv_at hl 0 rfl) ?_
  refine va_get (D := D) (ci := 13) (v := .int (o0.1 3)) (C := RSB) (T := TSB) (N := 4) hx hb hts inSB hown hK hP 0 rfl rfl 3 (by decide) (hts _ wv_457) (fun _ h9 => h9) rfl dAS_appendS_26 ?_
  refine lv_aload_n hx hb dAS_appendS_29 rfl (lv_at hl 1 rfl) ?_
  obtain ⟨q_1, hq_1, h⟩ := op_b h
  have hgr_2 : phSB q_1 ≤ phSB r := nAS_appendS_S8_33 _ _ _ h
  have hg2_3 : phSB o0 ≤ phSB q_1 := nAS_putStringAt_S8 _ _ _ hq_1
  refine dc_callv (va_runU (As := [.int (o0.1 3), .ref (K 108)]) (rest := []) ⟨hx, hb, hml, hown, hts⟩ (mAS_putStringAt_S8 l D K _ (o0.1 3) h0 a0 o0 _ hq_1) (cf_cwU (C := "java/lang/StringBuilder") 2 hts (cf_G1 wv_1614) rfl rfl rfl (hts _ wv_166) (hts _ wv_1611) (hts _ wv_2792) (va_Nw.use rfl (hE.n 31 rfl)) (hts _ wv_1613) (by decide +kernel) ⟨Nat.le_of_ble_eq_true rfl, Nat.le_of_ble_eq_true rfl⟩) (dc_preV hE hP hD hS hA rfl 0 rfl) rfl rfl hl.1 rfl (lv_room (Nat.le_of_ble_eq_true rfl)) dAS_appendS_30 ⟨gC_le (Nat.le_trans hg2_3 hgr_2), gS_le (Nat.le_trans hg2_3 hgr_2)⟩) hP hD hS hA (fun H locs hP hD hS => ?_)
  refine W.widen (k := (gC (phSB os) (phSB q_1))) (n := (gS (phSB os) (phSB q_1))) (gC_le hg2_3) (gS_le hg2_3) ?_
  have hg : phSB os ≤ phSB q_1 := Nat.le_trans hg hg2_3
  exact bAS_appendS_S8_33 C _ _ _ h hg hP hD hS (lv_sub hl [0, 2] rfl)
set_option maxHeartbeats 4000000 in
set_option maxRecDepth 100000 in
theorem bAS_appendS_S8_13 {p : Program} {l : Launch} {e : Env} {s : State} {m : MethodId} {below : List Frame} {meth : Method} {c : Code} {A : Nat → Prop} {D : va_G} {K : Nat → ClassId} {h0 : Nat} {os : cf_O} {AR : Array Value} (C : (dc_C p s m AR meth c cAS_appendS 3 (Option.some (Jvm.ClassFile.FieldType.object "java/lang/AbstractStringBuilder")) yAS_appendS ∧ cf_E D K A s s.heap ∧ ∀ q, s.heap.size ≤ q → A q)) (s0 : Int32) (o0 : cf_O) (r : cf_O) (h : fAS_appendS_S8_13 s0 o0 = some r) {a0 : Nat → Nat} {H : Heap} {locs : List Loc} {ls : Array Slot} (hg : phSB os ≤ phSB o0) (hP : va_P D vwCl (wSB K h0 a0 o0) H) (hD : va_D A (wSB K h0 a0 o0)) (hS : va_S A s.heap H locs) (hl : lv_has ls 3 [(0, .ref h0), (1, .ref (K 108))]) : W p l e ({ frames := 4, cells := (gC (phSB os) (phSB r)), slots := (gS (phSB os) (phSB r)), locals := 124 }) s m AR below meth c H locs (gC (phSB os) (phSB o0)) (gS (phSB os) (phSB o0)) (MQ below (va_Qr (fun (_ : Nat → Nat) => True) (fun (u : Nat → Nat) q t => cf_At D A (wSB K h0 u r) t ∧ q = h0) A) AR s (gC (phSB os) (phSB r)) (gS (phSB os) (phSB r)) A) (F0 m 13 ls [.int s0]) := by
  obtain ⟨⟨hx, hb, hr, hts, hown, hlocks, hin, hml⟩, hE, hA⟩ := id C
  have hK := hE.k
  refine lv_istore_n (lv' := [(2, .int s0), (0, .ref h0), (1, .ref (K 108))]) hx hb dAS_appendS_13 rfl hl (by decide) rfl (fun ls hl => ?_)
  refine lv_aload_n hx hb dAS_appendS_14 rfl (lv_at hl 1 rfl) ?_
  refine lv_aload_n hx hb dAS_appendS_15 rfl (lv_at hl 1 rfl) ?_
  refine va_get (D := D) (ci := 13) (v := .int (o0.1 3)) (C := RSB) (T := TSB) (N := 4) hx hb hts inSB hown hK hP 0 rfl rfl 3 (by decide) (hts _ wv_457) (fun _ h9 => h9) rfl dAS_appendS_16 ?_
  refine lv_iload_n hx hb dAS_appendS_19 rfl (lv_at hl 0 rfl) ?_
  refine lv_iadd hx hb dAS_appendS_20 ?_
  refine lv_topi (fun x_1 ex_1 => ?_)
  have h := op_ks ex_1 h
  obtain ⟨q_2, hq_2, h⟩ := op_b h
  have hgr_3 : phSB q_2 ≤ phSB r := nAS_appendS_S8_24 _ _ _ h
  have hg2_4 : phSB o0 ≤ phSB q_2 := nAS_ensureCapacityInternal _ _ _ hq_2
  refine cf_callv (wc := wSB K h0 a0 o0) (wr := []) (va_runU (As := [.int x_1]) (rest := []) ⟨hx, hb, hml, hown, hts⟩ (mAS_ensureCapacityInternal l D K _ x_1 h0 a0 o0 _ hq_2) (cf_cwU (C := "java/lang/StringBuilder") 1 hts (cf_G1 wv_1568) rfl rfl rfl (hts _ wv_166) (hts _ wv_1565) (hts _ wv_2790) (va_Nw.use rfl (hE.n 29 rfl)) (hts _ wv_1567) (by decide +kernel) ⟨Nat.le_of_ble_eq_true rfl, Nat.le_of_ble_eq_true rfl⟩) (cf_preV (wc := wSB K h0 a0 o0) hE hP hD hS hA rfl 0 rfl [0, 1] rfl (by decide +kernel)) rfl rfl hl.1 rfl (lv_room (Nat.le_of_ble_eq_true rfl)) dAS_appendS_21 ⟨Nat.le_trans (gC_add hg hg2_4) (gC_le hgr_3), Nat.le_trans (gS_add hg hg2_4) (gS_le hgr_3)⟩) hP hD hS hA [0, 1] [] rfl rfl (by decide +kernel) (by decide +kernel) (fun a0_6 H locs hw_5 hP hD hS => ?_)
  have hP : va_P D vwCl (wSB K h0 a0_6 q_2) H := hP.sub [0, 1] rfl
  have hD : va_D A (wSB K h0 a0_6 q_2) := hD.sub [0, 1] (by decide +kernel) rfl
  refine W.widen (k := (gC (phSB os) (phSB q_2))) (n := (gS (phSB os) (phSB q_2))) (gC_add hg hg2_4) (gS_add hg hg2_4) ?_
  have hg : phSB os ≤ phSB q_2 := Nat.le_trans hg hg2_4
  exact bAS_appendS_S8_24 C _ _ _ h hg hP hD hS (lv_sub hl [1, 2, 0] rfl)
set_option maxHeartbeats 4000000 in
set_option maxRecDepth 100000 in
theorem bAS_appendS_S8_0 {p : Program} {l : Launch} {e : Env} {s : State} {m : MethodId} {below : List Frame} {meth : Method} {c : Code} {A : Nat → Prop} {D : va_G} {K : Nat → ClassId} {h0 : Nat} {os : cf_O} {AR : Array Value} (C : (dc_C p s m AR meth c cAS_appendS 3 (Option.some (Jvm.ClassFile.FieldType.object "java/lang/AbstractStringBuilder")) yAS_appendS ∧ cf_E D K A s s.heap ∧ ∀ q, s.heap.size ≤ q → A q)) (o0 : cf_O) (r : cf_O) (h : fAS_appendS_S8_0 o0 = some r) {a0 : Nat → Nat} {H : Heap} {locs : List Loc} {ls : Array Slot} (hg : phSB os ≤ phSB o0) (hP : va_P D vwCl (wSB K h0 a0 o0) H) (hD : va_D A (wSB K h0 a0 o0)) (hS : va_S A s.heap H locs) (hl : lv_has ls 3 [(0, .ref h0), (1, .ref (K 108))]) : W p l e ({ frames := 4, cells := (gC (phSB os) (phSB r)), slots := (gS (phSB os) (phSB r)), locals := 124 }) s m AR below meth c H locs (gC (phSB os) (phSB o0)) (gS (phSB os) (phSB o0)) (MQ below (va_Qr (fun (_ : Nat → Nat) => True) (fun (u : Nat → Nat) q t => cf_At D A (wSB K h0 u r) t ∧ q = h0) A) AR s (gC (phSB os) (phSB r)) (gS (phSB os) (phSB r)) A) (F0 m 0 ls []) := by
  obtain ⟨⟨hx, hb, hr, hts, hown, hlocks, hin, hml⟩, hE, hA⟩ := id C
  have hK := hE.k
  refine lv_aload_n hx hb dAS_appendS_0 rfl (lv_at hl 1 rfl) ?_
  refine lv_ifnonnull (tgt := 9) hx hb dAS_appendS_1 (by decide) ?_
  refine lv_aload_n hx hb dAS_appendS_9 rfl (lv_at hl 1 rfl) ?_
  obtain ⟨q_1, hq_1, h⟩ := op_b h
  have hgr_2 : phSB o0 ≤ phSB r := nAS_appendS_S8_13 _ _ _ h
  refine cf_calli (wc := []) (wr := wSB K h0 a0 o0) (va_runV (As := []) (rest := []) ⟨hx, hb, hml, hown, hts⟩ (mJString_length__S8 l D K _ _ hq_1) (cwV 0 hts (cf_GV wv_1610 wv_757 wv_758 wv_168 wv_759) rfl rfl rfl (by decide +kernel) ⟨Nat.le_of_ble_eq_true rfl, Nat.le_of_ble_eq_true rfl⟩) (cf_preO (wc := []) (hE.s 8 rfl).2.1 hE hP hD hS hA [] rfl (by decide +kernel)) rfl rfl hl.1 rfl (lv_room (Nat.le_of_ble_eq_true rfl)) dAS_appendS_10 ⟨gC_le hgr_2, gS_le hgr_2⟩) hP hD hS hA [] [0, 1] rfl rfl (by decide +kernel) (by decide +kernel) (fun r_4 _ H locs hw_5 hP hD hS => ?_)
  subst r_4
  have hP : va_P D vwCl (wSB K h0 a0 o0) H := hP.sub [0, 1] rfl
  have hD : va_D A (wSB K h0 a0 o0) := hD.sub [0, 1] (by decide +kernel) rfl
  refine W.widen (k := (gC (phSB os) (phSB o0))) (n := (gS (phSB os) (phSB o0))) (Nat.le_refl _) (Nat.le_refl _) ?_
  exact bAS_appendS_S8_13 C _ _ _ h hg hP hD hS (lv_sub hl [0, 1] rfl)
set_option maxRecDepth 100000 in
theorem mAS_appendS_S8 (l : Launch) (D : va_G) (K : Nat → ClassId) (sz : Nat) (h0 : Nat) (a0 : Nat → Nat) (o0 : cf_O) (r : cf_O) (h : fAS_appendS_S8 o0 = some r) : Met l yAS_appendS (Cond.code yAS_appendS cAS_appendS 3 (Option.some (Jvm.ClassFile.FieldType.object "java/lang/AbstractStringBuilder")) :: cfB) ({ frames := 4, cells := (gC (phSB o0) (phSB r)), slots := (gS (phSB o0) (phSB r)), locals := 124 }) (va_Pc [.ref h0, .ref (K 108)] (cf_Pre D K sz (wSB K h0 a0 o0))) (va_Qr (fun (_ : Nat → Nat) => True) (fun (u : Nat → Nat) q t => cf_At D (va_A (wSB K h0 a0 o0) sz) (wSB K h0 u r) t ∧ q = h0) (va_A (wSB K h0 a0 o0) sz)) (gC (phSB o0) (phSB r)) (gS (phSB o0) (phSB r)) (va_A (wSB K h0 a0 o0) sz) := by
  refine cf_ofW (y := yAS_appendS) (As := [.ref h0, .ref (K 108)]) (WS := wSB K h0 a0 o0) (maxL := 3) (fun A => (va_Qr (fun (_ : Nat → Nat) => True) (fun (u : Nat → Nat) q t => cf_At D A (wSB K h0 u r) t ∧ q = h0) A)) (by decide) (Nat.le_of_ble_eq_true rfl) ?_
  intro p e s m below meth c A ls En hsz hA hP hD hE hS hl
  have C : (dc_C p s m (([.ref h0, .ref (K 108)] : List Value).toArray) meth c cAS_appendS 3 (Option.some (Jvm.ClassFile.FieldType.object "java/lang/AbstractStringBuilder")) yAS_appendS ∧ cf_E D K A s s.heap ∧ ∀ q, s.heap.size ≤ q → A q) := ⟨En, hE, hA⟩
  refine W.widen (k := gC (phSB o0) (phSB o0)) (n := gS (phSB o0) (phSB o0)) (Nat.zero_le _) (Nat.zero_le _) ?_
  exact bAS_appendS_S8_0 C o0 r h (Nat.le_refl _) hP hD hS hl
set_option maxRecDepth 100000 in
theorem nSB_appendS_S8_5 (o0 : cf_O) (r : cf_O) (h : fSB_appendS_S8_5 o0 = some r) : phSB o0 ≤ phSB r := by
  have hm : phSB o0 ≤ phSB o0 := Nat.le_refl _
  obtain rfl := Option.some.inj h
  exact hm
set_option maxRecDepth 100000 in
theorem nSB_appendS_S8_0 (o0 : cf_O) (r : cf_O) (h : fSB_appendS_S8_0 o0 = some r) : phSB o0 ≤ phSB r := by
  have hm : phSB o0 ≤ phSB o0 := Nat.le_refl _
  obtain ⟨q_1, hq_1, h⟩ := op_b h
  have hm : phSB o0 ≤ phSB q_1 := Nat.le_trans hm (nAS_appendS_S8 _ _ hq_1)
  exact Nat.le_trans hm (nSB_appendS_S8_5 _ _ h)
theorem nSB_appendS_S8 (o0 : cf_O) (r : cf_O) (h : fSB_appendS_S8 o0 = some r) : phSB o0 ≤ phSB r := nSB_appendS_S8_0  o0 r h
set_option maxHeartbeats 4000000 in
set_option maxRecDepth 100000 in
theorem bSB_appendS_S8_5 {p : Program} {l : Launch} {e : Env} {s : State} {m : MethodId} {below : List Frame} {meth : Method} {c : Code} {A : Nat → Prop} {D : va_G} {K : Nat → ClassId} {h0 : Nat} {os : cf_O} {AR : Array Value} (C : (dc_C p s m AR meth c cSB_appendS 2 (Option.some (Jvm.ClassFile.FieldType.object "java/lang/StringBuilder")) ySB_appendS ∧ cf_E D K A s s.heap ∧ ∀ q, s.heap.size ≤ q → A q)) (o0 : cf_O) (r : cf_O) (h : fSB_appendS_S8_5 o0 = some r) {a0 : Nat → Nat} {H : Heap} {locs : List Loc} {ls : Array Slot} (hg : phSB os ≤ phSB o0) (hP : va_P D vwCl (wSB K h0 a0 o0) H) (hD : va_D A (wSB K h0 a0 o0)) (hS : va_S A s.heap H locs) (hl : lv_has ls 2 [(0, .ref h0)]) : W p l e ({ frames := 5, cells := (gC (phSB os) (phSB r)), slots := (gS (phSB os) (phSB r)), locals := 146 }) s m AR below meth c H locs (gC (phSB os) (phSB o0)) (gS (phSB os) (phSB o0)) (MQ below (va_Qr (fun (_ : Nat → Nat) => True) (fun (u : Nat → Nat) q t => cf_At D A (wSB K h0 u r) t ∧ q = h0) A) AR s (gC (phSB os) (phSB r)) (gS (phSB os) (phSB r)) A) (F0 m 5 ls [.ref h0]) := by
  obtain ⟨⟨hx, hb, hr, hts, hown, hlocks, hin, hml⟩, hE, hA⟩ := id C
  have hK := hE.k
  refine lv_pop hx hb dSB_appendS_5 rfl ?_
  refine lv_aload_n hx hb dSB_appendS_6 rfl (lv_at hl 0 rfl) ?_
  obtain rfl := Option.some.inj h
  exact dc_aretG a0 hx hb hr ⟨_, rfl⟩ hlocks hP hD hS dSB_appendS_7
set_option maxHeartbeats 4000000 in
set_option maxRecDepth 100000 in
theorem bSB_appendS_S8_0 {p : Program} {l : Launch} {e : Env} {s : State} {m : MethodId} {below : List Frame} {meth : Method} {c : Code} {A : Nat → Prop} {D : va_G} {K : Nat → ClassId} {h0 : Nat} {os : cf_O} {AR : Array Value} (C : (dc_C p s m AR meth c cSB_appendS 2 (Option.some (Jvm.ClassFile.FieldType.object "java/lang/StringBuilder")) ySB_appendS ∧ cf_E D K A s s.heap ∧ ∀ q, s.heap.size ≤ q → A q)) (o0 : cf_O) (r : cf_O) (h : fSB_appendS_S8_0 o0 = some r) {a0 : Nat → Nat} {H : Heap} {locs : List Loc} {ls : Array Slot} (hg : phSB os ≤ phSB o0) (hP : va_P D vwCl (wSB K h0 a0 o0) H) (hD : va_D A (wSB K h0 a0 o0)) (hS : va_S A s.heap H locs) (hl : lv_has ls 2 [(0, .ref h0), (1, .ref (K 108))]) : W p l e ({ frames := 5, cells := (gC (phSB os) (phSB r)), slots := (gS (phSB os) (phSB r)), locals := 146 }) s m AR below meth c H locs (gC (phSB os) (phSB o0)) (gS (phSB os) (phSB o0)) (MQ below (va_Qr (fun (_ : Nat → Nat) => True) (fun (u : Nat → Nat) q t => cf_At D A (wSB K h0 u r) t ∧ q = h0) A) AR s (gC (phSB os) (phSB r)) (gS (phSB os) (phSB r)) A) (F0 m 0 ls []) := by
  obtain ⟨⟨hx, hb, hr, hts, hown, hlocks, hin, hml⟩, hE, hA⟩ := id C
  have hK := hE.k
  refine lv_aload_n hx hb dSB_appendS_0 rfl (lv_at hl 0 rfl) ?_
  refine lv_aload_n hx hb dSB_appendS_1 rfl (lv_at hl 1 rfl) ?_
  obtain ⟨q_1, hq_1, h⟩ := op_b h
  have hgr_2 : phSB q_1 ≤ phSB r := nSB_appendS_S8_5 _ _ h
  have hg2_3 : phSB o0 ≤ phSB q_1 := nAS_appendS_S8 _ _ hq_1
  refine cf_callR (wc := wSB K h0 a0 o0) (wr := []) (va_runSU (hK.1 13 _ rfl).2 (As := [.ref (K 108)]) (rest := []) ⟨hx, hb, hml, hown, hts⟩ (mAS_appendS_S8 l D K _ h0 a0 o0 _ hq_1) (cf_cwSU 1 hts (cf_G1 wv_1560) rfl rfl rfl (hts _ wv_1558) (hts _ wv_2788) (hts _ wv_466) (hts _ wv_1559) (hts _ wv_166) (by decide +kernel) ⟨Nat.le_of_ble_eq_true rfl, Nat.le_of_ble_eq_true rfl⟩) (cf_preV (wc := wSB K h0 a0 o0) hE hP hD hS hA rfl 0 rfl [0, 1] rfl (by decide +kernel)) rfl rfl hl.1 rfl (lv_room (Nat.le_of_ble_eq_true rfl)) dSB_appendS_2 ⟨Nat.le_trans (gC_add hg hg2_3) (gC_le hgr_2), Nat.le_trans (gS_add hg hg2_3) (gS_le hgr_2)⟩) hP hD hS hA [0, 1] [] rfl rfl (by decide +kernel) (by decide +kernel) (fun a0_5 H locs hw_4 hP hD hS => ?_)
  have hP : va_P D vwCl (wSB K h0 a0_5 q_1) H := hP.sub [0, 1] rfl
  have hD : va_D A (wSB K h0 a0_5 q_1) := hD.sub [0, 1] (by decide +kernel) rfl
  refine W.widen (k := (gC (phSB os) (phSB q_1))) (n := (gS (phSB os) (phSB q_1))) (gC_add hg hg2_3) (gS_add hg hg2_3) ?_
  have hg : phSB os ≤ phSB q_1 := Nat.le_trans hg hg2_3
  exact bSB_appendS_S8_5 C _ _ h hg hP hD hS (lv_sub hl [0] rfl)
set_option maxRecDepth 100000 in
theorem mSB_appendS_S8 (l : Launch) (D : va_G) (K : Nat → ClassId) (sz : Nat) (h0 : Nat) (a0 : Nat → Nat) (o0 : cf_O) (r : cf_O) (h : fSB_appendS_S8 o0 = some r) : Met l ySB_appendS (Cond.code ySB_appendS cSB_appendS 2 (Option.some (Jvm.ClassFile.FieldType.object "java/lang/StringBuilder")) :: cfB) ({ frames := 5, cells := (gC (phSB o0) (phSB r)), slots := (gS (phSB o0) (phSB r)), locals := 146 }) (va_Pc [.ref h0, .ref (K 108)] (cf_Pre D K sz (wSB K h0 a0 o0))) (va_Qr (fun (_ : Nat → Nat) => True) (fun (u : Nat → Nat) q t => cf_At D (va_A (wSB K h0 a0 o0) sz) (wSB K h0 u r) t ∧ q = h0) (va_A (wSB K h0 a0 o0) sz)) (gC (phSB o0) (phSB r)) (gS (phSB o0) (phSB r)) (va_A (wSB K h0 a0 o0) sz) := by
  refine cf_ofW (y := ySB_appendS) (As := [.ref h0, .ref (K 108)]) (WS := wSB K h0 a0 o0) (maxL := 2) (fun A => (va_Qr (fun (_ : Nat → Nat) => True) (fun (u : Nat → Nat) q t => cf_At D A (wSB K h0 u r) t ∧ q = h0) A)) (by decide) (Nat.le_of_ble_eq_true rfl) ?_
  intro p e s m below meth c A ls En hsz hA hP hD hE hS hl
  have C : (dc_C p s m (([.ref h0, .ref (K 108)] : List Value).toArray) meth c cSB_appendS 2 (Option.some (Jvm.ClassFile.FieldType.object "java/lang/StringBuilder")) ySB_appendS ∧ cf_E D K A s s.heap ∧ ∀ q, s.heap.size ≤ q → A q) := ⟨En, hE, hA⟩
  refine W.widen (k := gC (phSB o0) (phSB o0)) (n := gS (phSB o0) (phSB o0)) (Nat.zero_le _) (Nat.zero_le _) ?_
  exact bSB_appendS_S8_0 C o0 r h (Nat.le_refl _) hP hD hS hl
set_option maxHeartbeats 4000000 in
set_option maxRecDepth 100000 in
theorem bJString_coder__S10_14 {p : Program} {l : Launch} {e : Env} {s : State} {m : MethodId} {below : List Frame} {meth : Method} {c : Code} {A : Nat → Prop} {D : va_G} {K : Nat → ClassId} {AR : Array Value} (C : (dc_C p s m AR meth c cJString_coder_ 1 (Option.some Jvm.ClassFile.FieldType.byte) yJString_coder_ ∧ cf_E D K A s s.heap ∧ ∀ q, s.heap.size ≤ q → A q)) (s0 : Int32) (r : Int32) (h : fJString_coder__S10_14 s0 = some r) {H : Heap} {locs : List Loc} {ls : Array Slot} (hP : va_P D vwCl ([]) H) (hD : va_D A ([])) (hS : va_S A s.heap H locs) (hl : lv_has ls 1 []) : W p l e ({ frames := 0, cells := 0, slots := 0, locals := 0 }) s m AR below meth c H locs 0 0 (MQ below (va_Qi (fun (x : Int32) (_ : Unit) => x = r) (fun (_ : Unit) t => cf_At D A ([]) t) A) AR s 0 0 A) (F0 m 14 ls [.int s0]) := by
  obtain ⟨⟨hx, hb, hr, hts, hown, hlocks, hin, hml⟩, hE, hA⟩ := id C
  have hK := hE.k
  obtain ⟨hz_1, h⟩ := op_w h
  obtain rfl := Option.some.inj h
  exact dc_zretn hx hb hr (op_nb hz_1) hlocks rfl hP hD hS dJString_coder__14
set_option maxHeartbeats 4000000 in
set_option maxRecDepth 100000 in
theorem bJString_coder__S10_0 {p : Program} {l : Launch} {e : Env} {s : State} {m : MethodId} {below : List Frame} {meth : Method} {c : Code} {A : Nat → Prop} {D : va_G} {K : Nat → ClassId} {AR : Array Value} (C : (dc_C p s m AR meth c cJString_coder_ 1 (Option.some Jvm.ClassFile.FieldType.byte) yJString_coder_ ∧ cf_E D K A s s.heap ∧ ∀ q, s.heap.size ≤ q → A q)) (r : Int32) (h : fJString_coder__S10_0 = some r) {H : Heap} {locs : List Loc} {ls : Array Slot} (hP : va_P D vwCl ([]) H) (hD : va_D A ([])) (hS : va_S A s.heap H locs) (hl : lv_has ls 1 [(0, .ref (K 110))]) : W p l e ({ frames := 0, cells := 0, slots := 0, locals := 0 }) s m AR below meth c H locs 0 0 (MQ below (va_Qi (fun (x : Int32) (_ : Unit) => x = r) (fun (_ : Unit) t => cf_At D A ([]) t) A) AR s 0 0 A) (F0 m 0 ls []) := by
  obtain ⟨⟨hx, hb, hr, hts, hown, hlocks, hin, hml⟩, hE, hA⟩ := id C
  have hK := hE.k
  refine va_gets hx hb hE.2.2.2.2.2.2.1 hS hown (hts _ wv_764) (fun _ h9 => h9) dJString_coder__0 ?_
  refine lv_if_eq (tgt := 13) hx hb dJString_coder__3 (by decide) (fun c_1 => absurd c_1 (by decide)) (fun _ => ?_)
  refine lv_aload_n hx hb dJString_coder__6 rfl (lv_at hl 0 rfl) ?_
  refine vk_getf hx hb (hE.s 10 rfl).2.2.1 hS hown (hts _ wv_1736) (fun _ h9 => h9) dJString_coder__7 ?_
  refine lv_goto (tgt := 14) hx hb dJString_coder__10 (by decide) ?_
  exact bJString_coder__S10_14 C _ _ h hP hD hS (lv_sub hl [] rfl)
set_option maxRecDepth 100000 in
theorem mJString_coder__S10 (l : Launch) (D : va_G) (K : Nat → ClassId) (sz : Nat) (r : Int32) (h : fJString_coder__S10 = some r) : Met l yJString_coder_ (Cond.code yJString_coder_ cJString_coder_ 1 (Option.some Jvm.ClassFile.FieldType.byte) :: cfB) ({ frames := 0, cells := 0, slots := 0, locals := 0 }) (va_Pc [.ref (K 110)] (cf_Pre D K sz ([]))) (va_Qi (fun (x : Int32) (_ : Unit) => x = r) (fun (_ : Unit) t => cf_At D (va_A ([]) sz) ([]) t) (va_A ([]) sz)) 0 0 (va_A ([]) sz) := by
  refine cf_ofW (y := yJString_coder_) (As := [.ref (K 110)]) (WS := []) (maxL := 1) (fun A => (va_Qi (fun (x : Int32) (_ : Unit) => x = r) (fun (_ : Unit) t => cf_At D A ([]) t) A)) (by decide) (Nat.le_of_ble_eq_true rfl) ?_
  intro p e s m below meth c A ls En hsz hA hP hD hE hS hl
  have C : (dc_C p s m (([.ref (K 110)] : List Value).toArray) meth c cJString_coder_ 1 (Option.some Jvm.ClassFile.FieldType.byte) yJString_coder_ ∧ cf_E D K A s s.heap ∧ ∀ q, s.heap.size ≤ q → A q) := ⟨En, hE, hA⟩
  exact bJString_coder__S10_0 C r h hP hD hS hl
set_option maxHeartbeats 4000000 in
set_option maxRecDepth 100000 in
theorem bJString_length__S10_0 {p : Program} {l : Launch} {e : Env} {s : State} {m : MethodId} {below : List Frame} {meth : Method} {c : Code} {A : Nat → Prop} {D : va_G} {K : Nat → ClassId} {AR : Array Value} (C : (dc_C p s m AR meth c cJString_length_ 1 (Option.some Jvm.ClassFile.FieldType.int) yJString_length_ ∧ cf_E D K A s s.heap ∧ ∀ q, s.heap.size ≤ q → A q)) (r : Int32) (h : fJString_length__S10_0 = some r) {H : Heap} {locs : List Loc} {ls : Array Slot} (hP : va_P D vwCl ([]) H) (hD : va_D A ([])) (hS : va_S A s.heap H locs) (hl : lv_has ls 1 [(0, .ref (K 110))]) : W p l e ({ frames := 1, cells := 0, slots := 0, locals := 20 }) s m AR below meth c H locs 0 0 (MQ below (va_Qi (fun (x : Int32) (_ : Unit) => x = r) (fun (_ : Unit) t => cf_At D A ([]) t) A) AR s 0 0 A) (F0 m 0 ls []) := by
  obtain ⟨⟨hx, hb, hr, hts, hown, hlocks, hin, hml⟩, hE, hA⟩ := id C
  have hK := hE.k
  refine lv_aload_n hx hb dJString_length__0 rfl (lv_at hl 0 rfl) ?_
  refine vk_getf hx hb (hE.s 10 rfl).2.2.2.1 hS hown (hts _ wv_1735) (fun _ h9 => h9) dJString_length__1 ?_
  refine va_tlen (v := 3) hx hb (hE.s 10 rfl).2.2.2.2 hS rfl dJString_length__4 ?_
  refine lv_aload_n hx hb dJString_length__5 rfl (lv_at hl 0 rfl) ?_
  obtain ⟨q_1, hq_1, h⟩ := op_b h
  refine cf_calli (wc := []) (wr := []) (va_runV (As := []) (rest := [.int 3]) ⟨hx, hb, hml, hown, hts⟩ (mJString_coder__S10 l D K _ _ hq_1) (cwV 0 hts (cf_GV wv_760 wv_761 wv_762 wv_168 wv_763) rfl rfl rfl (by decide +kernel) ⟨Nat.le_of_ble_eq_true rfl, Nat.le_of_ble_eq_true rfl⟩) (cf_preO (wc := []) (hE.s 10 rfl).2.1 hE hP hD hS hA [] rfl (by decide +kernel)) rfl rfl hl.1 rfl (lv_room (Nat.le_of_ble_eq_true rfl)) dJString_length__6 ⟨Nat.le_of_ble_eq_true rfl, Nat.le_of_ble_eq_true rfl⟩) hP hD hS hA [] [] rfl rfl (by decide +kernel) (by decide +kernel) (fun r_2 _ H locs hw_3 hP hD hS => ?_)
  subst r_2
  have hP : va_P D vwCl ([]) H := hP.sub [] rfl
  have hD : va_D A ([]) := hD.sub [] (by decide +kernel) rfl
  refine lv_ishr hx hb dJString_length__9 ?_
  refine lv_topi (fun x_4 ex_4 => ?_)
  have h := op_ks ex_4 h
  obtain rfl := Option.some.inj h
  exact dc_iret hx hb hr hlocks rfl hP hD hS dJString_length__10
set_option maxRecDepth 100000 in
theorem mJString_length__S10 (l : Launch) (D : va_G) (K : Nat → ClassId) (sz : Nat) (r : Int32) (h : fJString_length__S10 = some r) : Met l yJString_length_ (Cond.code yJString_length_ cJString_length_ 1 (Option.some Jvm.ClassFile.FieldType.int) :: cfB) ({ frames := 1, cells := 0, slots := 0, locals := 20 }) (va_Pc [.ref (K 110)] (cf_Pre D K sz ([]))) (va_Qi (fun (x : Int32) (_ : Unit) => x = r) (fun (_ : Unit) t => cf_At D (va_A ([]) sz) ([]) t) (va_A ([]) sz)) 0 0 (va_A ([]) sz) := by
  refine cf_ofW (y := yJString_length_) (As := [.ref (K 110)]) (WS := []) (maxL := 1) (fun A => (va_Qi (fun (x : Int32) (_ : Unit) => x = r) (fun (_ : Unit) t => cf_At D A ([]) t) A)) (by decide) (Nat.le_of_ble_eq_true rfl) ?_
  intro p e s m below meth c A ls En hsz hA hP hD hE hS hl
  have C : (dc_C p s m (([.ref (K 110)] : List Value).toArray) meth c cJString_length_ 1 (Option.some Jvm.ClassFile.FieldType.int) yJString_length_ ∧ cf_E D K A s s.heap ∧ ∀ q, s.heap.size ≤ q → A q) := ⟨En, hE, hA⟩
  exact bJString_length__S10_0 C r h hP hD hS hl
set_option maxHeartbeats 4000000 in
set_option maxRecDepth 100000 in
theorem bAS_inflateIfNeededFor_S10_21 {p : Program} {l : Launch} {e : Env} {s : State} {m : MethodId} {below : List Frame} {meth : Method} {c : Code} {A : Nat → Prop} {D : va_G} {K : Nat → ClassId} {h0 : Nat} {a0 : Nat → Nat} {AR : Array Value} (C : (dc_C p s m AR meth c cAS_inflateIfNeededFor 2 (Option.none : Option Jvm.ClassFile.FieldType) yAS_inflateIfNeededFor ∧ cf_E D K A s s.heap ∧ ∀ q, s.heap.size ≤ q → A q)) (o0 : cf_O) (r : Unit) (h : fAS_inflateIfNeededFor_S10_21 o0 = some r) {H : Heap} {locs : List Loc} {ls : Array Slot} (hP : va_P D vwCl (wSB K h0 a0 o0) H) (hD : va_D A (wSB K h0 a0 o0)) (hS : va_S A s.heap H locs) (hl : lv_has ls 2 []) : W p l e ({ frames := 1, cells := 0, slots := 0, locals := 20 }) s m AR below meth c H locs 0 0 (MQ below (va_Qv (fun (_ : Unit) => True) (fun (_ : Unit) t => cf_At D A (wSB K h0 a0 o0) t) A) AR s 0 0 A) (F0 m 21 ls []) := by
  obtain ⟨⟨hx, hb, hr, hts, hown, hlocks, hin, hml⟩, hE, hA⟩ := id C
  have hK := hE.k
  obtain rfl := Option.some.inj h
  exact dc_vret hx hb hr hlocks rfl hP hD hS dAS_inflateIfNeededFor_21
set_option maxHeartbeats 4000000 in
set_option maxRecDepth 100000 in
theorem bAS_inflateIfNeededFor_S10_0 {p : Program} {l : Launch} {e : Env} {s : State} {m : MethodId} {below : List Frame} {meth : Method} {c : Code} {A : Nat → Prop} {D : va_G} {K : Nat → ClassId} {h0 : Nat} {a0 : Nat → Nat} {AR : Array Value} (C : (dc_C p s m AR meth c cAS_inflateIfNeededFor 2 (Option.none : Option Jvm.ClassFile.FieldType) yAS_inflateIfNeededFor ∧ cf_E D K A s s.heap ∧ ∀ q, s.heap.size ≤ q → A q)) (o0 : cf_O) (r : Unit) (h : fAS_inflateIfNeededFor_S10_0 o0 = some r) {H : Heap} {locs : List Loc} {ls : Array Slot} (hP : va_P D vwCl (wSB K h0 a0 o0) H) (hD : va_D A (wSB K h0 a0 o0)) (hS : va_S A s.heap H locs) (hl : lv_has ls 2 [(0, .ref h0), (1, .ref (K 110))]) : W p l e ({ frames := 1, cells := 0, slots := 0, locals := 20 }) s m AR below meth c H locs 0 0 (MQ below (va_Qv (fun (_ : Unit) => True) (fun (_ : Unit) t => cf_At D A (wSB K h0 a0 o0) t) A) AR s 0 0 A) (F0 m 0 ls []) := by
  obtain ⟨⟨hx, hb, hr, hts, hown, hlocks, hin, hml⟩, hE, hA⟩ := id C
  have hK := hE.k
  refine va_gets hx hb hE.2.2.2.2.2.2.1 hS hown (hts _ wv_444) (fun _ h9 => h9) dAS_inflateIfNeededFor_0 ?_
  refine lv_if_eq (tgt := 21) hx hb dAS_inflateIfNeededFor_3 (by decide) (fun c_1 => absurd c_1 (by decide)) (fun _ => ?_)
  refine lv_aload_n hx hb dAS_inflateIfNeededFor_6 rfl (lv_at hl 0 rfl) ?_
  refine va_get (D := D) (ci := 13) (v := .int (o0.1 1)) (C := RSB) (T := TSB) (N := 4) hx hb hts inSB hown hK hP 0 rfl rfl 1 (by decide) (hts _ wv_454) (fun _ h9 => h9) rfl dAS_inflateIfNeededFor_7 ?_
  refine lv_aload_n hx hb dAS_inflateIfNeededFor_10 rfl (lv_at hl 1 rfl) ?_
  obtain ⟨q_2, hq_2, h⟩ := op_b h
  refine cf_calli (wc := []) (wr := wSB K h0 a0 o0) (va_runV (As := []) (rest := [.int (o0.1 1)]) ⟨hx, hb, hml, hown, hts⟩ (mJString_coder__S10 l D K _ _ hq_2) (cwV 0 hts (cf_GV wv_1619 wv_761 wv_762 wv_168 wv_763) rfl rfl rfl (by decide +kernel) ⟨Nat.le_of_ble_eq_true rfl, Nat.le_of_ble_eq_true rfl⟩) (cf_preO (wc := []) (hE.s 10 rfl).2.1 hE hP hD hS hA [] rfl (by decide +kernel)) rfl rfl hl.1 rfl (lv_room (Nat.le_of_ble_eq_true rfl)) dAS_inflateIfNeededFor_11 ⟨Nat.le_of_ble_eq_true rfl, Nat.le_of_ble_eq_true rfl⟩) hP hD hS hA [] [0, 1] rfl rfl (by decide +kernel) (by decide +kernel) (fun r_3 _ H locs hw_4 hP hD hS => ?_)
  subst r_3
  have hP : va_P D vwCl (wSB K h0 a0 o0) H := hP.sub [0, 1] rfl
  have hD : va_D A (wSB K h0 a0 o0) := hD.sub [0, 1] (by decide +kernel) rfl
  refine lv_icmp_eq (tgt := 21) hx hb dAS_inflateIfNeededFor_14 (by decide) (fun c_5 => ?_) (fun c_5 => ?_)
  · have h := op_t c_5 h
    exact bAS_inflateIfNeededFor_S10_21 C _ _ h hP hD hS (lv_sub hl [] rfl)
  · have h := op_f c_5 h
    refine lv_aload_n hx hb dAS_inflateIfNeededFor_17 rfl (lv_at hl 0 rfl) ?_
    cases h
set_option maxRecDepth 100000 in
theorem mAS_inflateIfNeededFor_S10 (l : Launch) (D : va_G) (K : Nat → ClassId) (sz : Nat) (h0 : Nat) (a0 : Nat → Nat) (o0 : cf_O) (r : Unit) (h : fAS_inflateIfNeededFor_S10 o0 = some r) : Met l yAS_inflateIfNeededFor (Cond.code yAS_inflateIfNeededFor cAS_inflateIfNeededFor 2 (Option.none : Option Jvm.ClassFile.FieldType) :: cfB) ({ frames := 1, cells := 0, slots := 0, locals := 20 }) (va_Pc [.ref h0, .ref (K 110)] (cf_Pre D K sz (wSB K h0 a0 o0))) (va_Qv (fun (_ : Unit) => True) (fun (_ : Unit) t => cf_At D (va_A (wSB K h0 a0 o0) sz) (wSB K h0 a0 o0) t) (va_A (wSB K h0 a0 o0) sz)) 0 0 (va_A (wSB K h0 a0 o0) sz) := by
  refine cf_ofW (y := yAS_inflateIfNeededFor) (As := [.ref h0, .ref (K 110)]) (WS := wSB K h0 a0 o0) (maxL := 2) (fun A => (va_Qv (fun (_ : Unit) => True) (fun (_ : Unit) t => cf_At D A (wSB K h0 a0 o0) t) A)) (by decide) (Nat.le_of_ble_eq_true rfl) ?_
  intro p e s m below meth c A ls En hsz hA hP hD hE hS hl
  have C : (dc_C p s m (([.ref h0, .ref (K 110)] : List Value).toArray) meth c cAS_inflateIfNeededFor 2 (Option.none : Option Jvm.ClassFile.FieldType) yAS_inflateIfNeededFor ∧ cf_E D K A s s.heap ∧ ∀ q, s.heap.size ≤ q → A q) := ⟨En, hE, hA⟩
  exact bAS_inflateIfNeededFor_S10_0 C o0 r h hP hD hS hl
set_option maxRecDepth 100000 in
theorem nJString_getBytes_ABIB_S10_SB0_0 (v2 : Int32) (v3 : Int32) (o0 : cf_O) (r : cf_O) (h : fJString_getBytes_ABIB_S10_SB0_0 v2 v3 o0 = some r) : phSB o0 ≤ phSB r := by
  have hm : phSB o0 ≤ phSB o0 := Nat.le_refl _
  obtain ⟨q_1, hq_1, h⟩ := op_b h
  rcases (Classical.em (q_1 = v3)).symm with c_4 | c_4
  · have h := op_f c_4 h
    cases h
  · have h := op_t c_4 h
    obtain ⟨x_5, ex_5, h⟩ := op_kx h
    obtain ⟨hi_6, h⟩ := op_n h
    obtain ⟨o_7, eo_7, h⟩ := op_kx h
    have hm : phSB o0 ≤ phSB o_7 := by rw [eo_7]; exact hm
    obtain rfl := Option.some.inj h
    exact hm
theorem nJString_getBytes_ABIB_S10_SB0 (v2 : Int32) (v3 : Int32) (o0 : cf_O) (r : cf_O) (h : fJString_getBytes_ABIB_S10_SB0 v2 v3 o0 = some r) : phSB o0 ≤ phSB r := nJString_getBytes_ABIB_S10_SB0_0  v2 v3 o0 r h
set_option maxHeartbeats 4000000 in
set_option maxRecDepth 100000 in
theorem bJString_getBytes_ABIB_S10_SB0_0 {p : Program} {l : Launch} {e : Env} {s : State} {m : MethodId} {below : List Frame} {meth : Method} {c : Code} {A : Nat → Prop} {D : va_G} {K : Nat → ClassId} {h0 : Nat} {a0 : Nat → Nat} {AR : Array Value} (C : (dc_C p s m AR meth c cJString_getBytes_ABIB 4 (Option.none : Option Jvm.ClassFile.FieldType) yJString_getBytes_ABIB ∧ cf_E D K A s s.heap ∧ ∀ q, s.heap.size ≤ q → A q)) (v2 : Int32) (v3 : Int32) (o0 : cf_O) (r : cf_O) (h : fJString_getBytes_ABIB_S10_SB0_0 v2 v3 o0 = some r) {H : Heap} {locs : List Loc} {ls : Array Slot} (hP : va_P D vwCl (wSB K h0 a0 o0) H) (hD : va_D A (wSB K h0 a0 o0)) (hS : va_S A s.heap H locs) (hl : lv_has ls 4 [(0, .ref (K 110)), (1, .ref (a0 0)), (2, .int v2), (3, .int v3)]) : W p l e ({ frames := 1, cells := 0, slots := 0, locals := 60 }) s m AR below meth c H locs 0 0 (MQ below (va_Qv (fun (_ : Unit) => True) (fun (_ : Unit) t => cf_At D A (wSB K h0 a0 r) t) A) AR s 0 0 A) (F0 m 0 ls []) := by
  obtain ⟨⟨hx, hb, hr, hts, hown, hlocks, hin, hml⟩, hE, hA⟩ := id C
  have hK := hE.k
  refine lv_aload_n hx hb dJString_getBytes_ABIB_0 rfl (lv_at hl 0 rfl) ?_
  obtain ⟨q_1, hq_1, h⟩ := op_b h
  refine cf_calli (wc := []) (wr := wSB K h0 a0 o0) (va_runV (As := []) (rest := []) ⟨hx, hb, hml, hown, hts⟩ (mJString_coder__S10 l D K _ _ hq_1) (cwV 0 hts (cf_GV wv_760 wv_761 wv_762 wv_168 wv_763) rfl rfl rfl (by decide +kernel) ⟨Nat.le_of_ble_eq_true rfl, Nat.le_of_ble_eq_true rfl⟩) (cf_preO (wc := []) (hE.s 10 rfl).2.1 hE hP hD hS hA [] rfl (by decide +kernel)) rfl rfl hl.1 rfl (lv_room (Nat.le_of_ble_eq_true rfl)) dJString_getBytes_ABIB_1 ⟨Nat.le_of_ble_eq_true rfl, Nat.le_of_ble_eq_true rfl⟩) hP hD hS hA [] [0, 1] rfl rfl (by decide +kernel) (by decide +kernel) (fun r_2 _ H locs hw_3 hP hD hS => ?_)
  subst r_2
  have hP : va_P D vwCl (wSB K h0 a0 o0) H := hP.sub [0, 1] rfl
  have hD : va_D A (wSB K h0 a0 o0) := hD.sub [0, 1] (by decide +kernel) rfl
  refine lv_iload_n hx hb dJString_getBytes_ABIB_4 rfl (lv_at hl 3 rfl) ?_
  refine lv_icmp_ne (tgt := 28) hx hb dJString_getBytes_ABIB_5 (by decide) (fun c_4 => ?_) (fun c_4 => ?_)
  · have h := op_f c_4 h
    refine lv_aload_n hx hb dJString_getBytes_ABIB_28 rfl (lv_at hl 0 rfl) ?_
    refine vk_getf hx hb (hE.s 10 rfl).2.2.2.1 hS hown (hts _ wv_1735) (fun _ h9 => h9) dJString_getBytes_ABIB_29 ?_
    refine lv_iconst (v := 0) hx hb dJString_getBytes_ABIB_32 (by decide) ?_
    refine lv_aload_n hx hb dJString_getBytes_ABIB_33 rfl (lv_at hl 1 rfl) ?_
    refine lv_iload_n hx hb dJString_getBytes_ABIB_34 rfl (lv_at hl 2 rfl) ?_
    refine lv_aload_n hx hb dJString_getBytes_ABIB_35 rfl (lv_at hl 0 rfl) ?_
    refine vk_getf hx hb (hE.s 10 rfl).2.2.2.1 hS hown (hts _ wv_1735) (fun _ h9 => h9) dJString_getBytes_ABIB_36 ?_
    refine va_tlen (v := 3) hx hb (hE.s 10 rfl).2.2.2.2 hS rfl dJString_getBytes_ABIB_39 ?_
    cases h
  · have h := op_t c_4 h
    refine lv_aload_n hx hb dJString_getBytes_ABIB_8 rfl (lv_at hl 0 rfl) ?_
    refine vk_getf hx hb (hE.s 10 rfl).2.2.2.1 hS hown (hts _ wv_1735) (fun _ h9 => h9) dJString_getBytes_ABIB_9 ?_
    refine lv_iconst (v := 0) hx hb dJString_getBytes_ABIB_12 (by decide) ?_
    refine lv_aload_n hx hb dJString_getBytes_ABIB_13 rfl (lv_at hl 1 rfl) ?_
    refine lv_iload_n hx hb dJString_getBytes_ABIB_14 rfl (lv_at hl 2 rfl) ?_
    refine lv_iload_n hx hb dJString_getBytes_ABIB_15 rfl (lv_at hl 3 rfl) ?_
    refine lv_ishl hx hb dJString_getBytes_ABIB_16 ?_
    refine lv_topi (fun x_5 ex_5 => ?_)
    have h := op_ks ex_5 h
    refine lv_aload_n hx hb dJString_getBytes_ABIB_17 rfl (lv_at hl 0 rfl) ?_
    refine vk_getf hx hb (hE.s 10 rfl).2.2.2.1 hS hown (hts _ wv_1735) (fun _ h9 => h9) dJString_getBytes_ABIB_18 ?_
    refine va_tlen (v := 3) hx hb (hE.s 10 rfl).2.2.2.2 hS rfl dJString_getBytes_ABIB_21 ?_
    obtain ⟨hi_6, h⟩ := op_n h
    refine vk_copyt (D := D) (f := cf_sb 10) hx hb (hml.trans hl.1.symm) hown (hts _ wv_1643) (hts _ wv_1295) (hts _ wv_1294) (hts _ wv_187) hK hP hD hS (hE.s 10 rfl).2.2.2.2 1 2 rfl rfl (by decide) (fun z => hi_6 (Or.inl z)) (by decide) (by decide) (Nat.not_lt.mp (fun z => hi_6 (Or.inr z))) (by decide) (Nat.le_of_ble_eq_true rfl) (Nat.le_of_ble_eq_true rfl) dJString_getBytes_ABIB_22 (fun H locs hP hD hS => ?_)
    have hP : va_P D vwCl (wSB K h0 a0 (cb o0 0 10 x_5 3)) H := hP
    have hD : va_D A (wSB K h0 a0 (cb o0 0 10 x_5 3)) := hD
    obtain ⟨o_7, eo_7, h⟩ := op_kx h
    rw [← eo_7] at hP hD
    refine lv_goto (tgt := 43) hx hb dJString_getBytes_ABIB_25 (by decide) ?_
    obtain rfl := Option.some.inj h
    exact dc_vret hx hb hr hlocks rfl hP hD hS dJString_getBytes_ABIB_43
set_option maxRecDepth 100000 in
theorem mJString_getBytes_ABIB_S10_SB0 (l : Launch) (D : va_G) (K : Nat → ClassId) (sz : Nat) (v2 : Int32) (v3 : Int32) (h0 : Nat) (a0 : Nat → Nat) (o0 : cf_O) (r : cf_O) (h : fJString_getBytes_ABIB_S10_SB0 v2 v3 o0 = some r) : Met l yJString_getBytes_ABIB (Cond.code yJString_getBytes_ABIB cJString_getBytes_ABIB 4 (Option.none : Option Jvm.ClassFile.FieldType) :: cfB) ({ frames := 1, cells := 0, slots := 0, locals := 60 }) (va_Pc [.ref (K 110), .ref (a0 0), .int v2, .int v3] (cf_Pre D K sz (wSB K h0 a0 o0))) (va_Qv (fun (_ : Unit) => True) (fun (_ : Unit) t => cf_At D (va_A (wSB K h0 a0 o0) sz) (wSB K h0 a0 r) t) (va_A (wSB K h0 a0 o0) sz)) 0 0 (va_A (wSB K h0 a0 o0) sz) := by
  refine cf_ofW (y := yJString_getBytes_ABIB) (As := [.ref (K 110), .ref (a0 0), .int v2, .int v3]) (WS := wSB K h0 a0 o0) (maxL := 4) (fun A => (va_Qv (fun (_ : Unit) => True) (fun (_ : Unit) t => cf_At D A (wSB K h0 a0 r) t) A)) (by decide) (Nat.le_of_ble_eq_true rfl) ?_
  intro p e s m below meth c A ls En hsz hA hP hD hE hS hl
  have C : (dc_C p s m (([.ref (K 110), .ref (a0 0), .int v2, .int v3] : List Value).toArray) meth c cJString_getBytes_ABIB 4 (Option.none : Option Jvm.ClassFile.FieldType) yJString_getBytes_ABIB ∧ cf_E D K A s s.heap ∧ ∀ q, s.heap.size ≤ q → A q) := ⟨En, hE, hA⟩
  exact bJString_getBytes_ABIB_S10_SB0_0 C v2 v3 o0 r h hP hD hS hl
set_option maxRecDepth 100000 in
theorem nAS_putStringAt_S10_0 (v1 : Int32) (o0 : cf_O) (r : cf_O) (h : fAS_putStringAt_S10_0 v1 o0 = some r) : phSB o0 ≤ phSB r := by
  have hm : phSB o0 ≤ phSB o0 := Nat.le_refl _
  obtain ⟨q_1, hq_1, h⟩ := op_b h
  obtain ⟨q_3, hq_3, h⟩ := op_b h
  have hm : phSB o0 ≤ phSB q_3 := Nat.le_trans hm (nJString_getBytes_ABIB_S10_SB0 _ _ _ _ hq_3)
  obtain rfl := Option.some.inj h
  exact hm
theorem nAS_putStringAt_S10 (v1 : Int32) (o0 : cf_O) (r : cf_O) (h : fAS_putStringAt_S10 v1 o0 = some r) : phSB o0 ≤ phSB r := nAS_putStringAt_S10_0  v1 o0 r h
set_option maxHeartbeats 4000000 in
set_option maxRecDepth 100000 in
theorem bAS_putStringAt_S10_0 {p : Program} {l : Launch} {e : Env} {s : State} {m : MethodId} {below : List Frame} {meth : Method} {c : Code} {A : Nat → Prop} {D : va_G} {K : Nat → ClassId} {h0 : Nat} {a0 : Nat → Nat} {AR : Array Value} (C : (dc_C p s m AR meth c cAS_putStringAt 3 (Option.none : Option Jvm.ClassFile.FieldType) yAS_putStringAt ∧ cf_E D K A s s.heap ∧ ∀ q, s.heap.size ≤ q → A q)) (v1 : Int32) (o0 : cf_O) (r : cf_O) (h : fAS_putStringAt_S10_0 v1 o0 = some r) {H : Heap} {locs : List Loc} {ls : Array Slot} (hP : va_P D vwCl (wSB K h0 a0 o0) H) (hD : va_D A (wSB K h0 a0 o0)) (hS : va_S A s.heap H locs) (hl : lv_has ls 3 [(0, .ref h0), (1, .int v1), (2, .ref (K 110))]) : W p l e ({ frames := 2, cells := 0, slots := 0, locals := 83 }) s m AR below meth c H locs 0 0 (MQ below (va_Qv (fun (_ : Unit) => True) (fun (_ : Unit) t => cf_At D A (wSB K h0 a0 r) t) A) AR s 0 0 A) (F0 m 0 ls []) := by
  obtain ⟨⟨hx, hb, hr, hts, hown, hlocks, hin, hml⟩, hE, hA⟩ := id C
  have hK := hE.k
  refine lv_aload_n hx hb dAS_putStringAt_0 rfl (lv_at hl 0 rfl) ?_
  refine lv_aload_n hx hb dAS_putStringAt_1 rfl (lv_at hl 2 rfl) ?_
  obtain ⟨q_1, hq_1, h⟩ := op_b h
  refine dc_callv (va_runU (As := [.ref (K 110)]) (rest := []) ⟨hx, hb, hml, hown, hts⟩ (mAS_inflateIfNeededFor_S10 l D K _ h0 a0 o0 _ hq_1) (cf_cwU (C := "java/lang/StringBuilder") 1 hts (cf_G1 wv_1618) rfl rfl rfl (hts _ wv_166) (hts _ wv_1615) (hts _ wv_2793) (va_Nw.use rfl (hE.n 32 rfl)) (hts _ wv_1617) (by decide +kernel) ⟨Nat.le_of_ble_eq_true rfl, Nat.le_of_ble_eq_true rfl⟩) (dc_preV hE hP hD hS hA rfl 0 rfl) rfl rfl hl.1 rfl (lv_room (Nat.le_of_ble_eq_true rfl)) dAS_putStringAt_2 ⟨Nat.le_of_ble_eq_true rfl, Nat.le_of_ble_eq_true rfl⟩) hP hD hS hA (fun H locs hP hD hS => ?_)
  refine lv_aload_n hx hb dAS_putStringAt_5 rfl (lv_at hl 2 rfl) ?_
  refine lv_aload_n hx hb dAS_putStringAt_6 rfl (lv_at hl 0 rfl) ?_
  refine va_get (D := D) (ci := 13) (v := .ref (a0 0)) (C := RSB) (T := TSB) (N := 4) hx hb hts inSB hown hK hP 0 rfl rfl 0 (by decide) (hts _ wv_453) (fun _ h9 => h9) rfl dAS_putStringAt_7 ?_
  refine lv_iload_n hx hb dAS_putStringAt_10 rfl (lv_at hl 1 rfl) ?_
  refine lv_aload_n hx hb dAS_putStringAt_11 rfl (lv_at hl 0 rfl) ?_
  refine va_get (D := D) (ci := 13) (v := .int (o0.1 1)) (C := RSB) (T := TSB) (N := 4) hx hb hts inSB hown hK hP 0 rfl rfl 1 (by decide) (hts _ wv_454) (fun _ h9 => h9) rfl dAS_putStringAt_12 ?_
  obtain ⟨q_3, hq_3, h⟩ := op_b h
  refine cf_callv (wc := wSB K h0 a0 o0) (wr := []) (va_runV (As := [.ref (a0 0), .int v1, .int (o0.1 1)]) (rest := []) ⟨hx, hb, hml, hown, hts⟩ (mJString_getBytes_ABIB_S10_SB0 l D K _ v1 (o0.1 1) h0 a0 o0 _ hq_3) (cwV 3 hts (cf_GV wv_1639 wv_1640 wv_1641 wv_168 wv_1642) rfl rfl rfl (by decide +kernel) ⟨Nat.le_of_ble_eq_true rfl, Nat.le_of_ble_eq_true rfl⟩) (cf_preO (wc := wSB K h0 a0 o0) (hE.s 10 rfl).2.1 hE hP hD hS hA [0, 1] rfl (by decide +kernel)) rfl rfl hl.1 rfl (lv_room (Nat.le_of_ble_eq_true rfl)) dAS_putStringAt_15 ⟨Nat.le_of_ble_eq_true rfl, Nat.le_of_ble_eq_true rfl⟩) hP hD hS hA [0, 1] [] rfl rfl (by decide +kernel) (by decide +kernel) (fun _ H locs hw_4 hP hD hS => ?_)
  have hP : va_P D vwCl (wSB K h0 a0 q_3) H := hP.sub [0, 1] rfl
  have hD : va_D A (wSB K h0 a0 q_3) := hD.sub [0, 1] (by decide +kernel) rfl
  obtain rfl := Option.some.inj h
  exact dc_vret hx hb hr hlocks rfl hP hD hS dAS_putStringAt_18
set_option maxRecDepth 100000 in
theorem mAS_putStringAt_S10 (l : Launch) (D : va_G) (K : Nat → ClassId) (sz : Nat) (v1 : Int32) (h0 : Nat) (a0 : Nat → Nat) (o0 : cf_O) (r : cf_O) (h : fAS_putStringAt_S10 v1 o0 = some r) : Met l yAS_putStringAt (Cond.code yAS_putStringAt cAS_putStringAt 3 (Option.none : Option Jvm.ClassFile.FieldType) :: cfB) ({ frames := 2, cells := 0, slots := 0, locals := 83 }) (va_Pc [.ref h0, .int v1, .ref (K 110)] (cf_Pre D K sz (wSB K h0 a0 o0))) (va_Qv (fun (_ : Unit) => True) (fun (_ : Unit) t => cf_At D (va_A (wSB K h0 a0 o0) sz) (wSB K h0 a0 r) t) (va_A (wSB K h0 a0 o0) sz)) 0 0 (va_A (wSB K h0 a0 o0) sz) := by
  refine cf_ofW (y := yAS_putStringAt) (As := [.ref h0, .int v1, .ref (K 110)]) (WS := wSB K h0 a0 o0) (maxL := 3) (fun A => (va_Qv (fun (_ : Unit) => True) (fun (_ : Unit) t => cf_At D A (wSB K h0 a0 r) t) A)) (by decide) (Nat.le_of_ble_eq_true rfl) ?_
  intro p e s m below meth c A ls En hsz hA hP hD hE hS hl
  have C : (dc_C p s m (([.ref h0, .int v1, .ref (K 110)] : List Value).toArray) meth c cAS_putStringAt 3 (Option.none : Option Jvm.ClassFile.FieldType) yAS_putStringAt ∧ cf_E D K A s s.heap ∧ ∀ q, s.heap.size ≤ q → A q) := ⟨En, hE, hA⟩
  exact bAS_putStringAt_S10_0 C v1 o0 r h hP hD hS hl
set_option maxRecDepth 100000 in
theorem nAS_appendS_S10_33 (v2 : Int32) (o0 : cf_O) (r : cf_O) (h : fAS_appendS_S10_33 v2 o0 = some r) : phSB o0 ≤ phSB r := by
  have hm : phSB o0 ≤ phSB o0 := Nat.le_refl _
  obtain ⟨x_1, ex_1, h⟩ := op_kx h
  obtain ⟨o_2, eo_2, h⟩ := op_kx h
  have hm : phSB o0 ≤ phSB o_2 := by rw [eo_2]; exact hm
  obtain rfl := Option.some.inj h
  exact hm
set_option maxRecDepth 100000 in
theorem nAS_appendS_S10_24 (v2 : Int32) (o0 : cf_O) (r : cf_O) (h : fAS_appendS_S10_24 v2 o0 = some r) : phSB o0 ≤ phSB r := by
  have hm : phSB o0 ≤ phSB o0 := Nat.le_refl _
  obtain ⟨q_1, hq_1, h⟩ := op_b h
  have hm : phSB o0 ≤ phSB q_1 := Nat.le_trans hm (nAS_putStringAt_S10 _ _ _ hq_1)
  exact Nat.le_trans hm (nAS_appendS_S10_33 _ _ _ h)
set_option maxRecDepth 100000 in
theorem nAS_appendS_S10_13 (s0 : Int32) (o0 : cf_O) (r : cf_O) (h : fAS_appendS_S10_13 s0 o0 = some r) : phSB o0 ≤ phSB r := by
  have hm : phSB o0 ≤ phSB o0 := Nat.le_refl _
  obtain ⟨x_1, ex_1, h⟩ := op_kx h
  obtain ⟨q_2, hq_2, h⟩ := op_b h
  have hm : phSB o0 ≤ phSB q_2 := Nat.le_trans hm (nAS_ensureCapacityInternal _ _ _ hq_2)
  exact Nat.le_trans hm (nAS_appendS_S10_24 _ _ _ h)
set_option maxRecDepth 100000 in
theorem nAS_appendS_S10_0 (o0 : cf_O) (r : cf_O) (h : fAS_appendS_S10_0 o0 = some r) : phSB o0 ≤ phSB r := by
  have hm : phSB o0 ≤ phSB o0 := Nat.le_refl _
  obtain ⟨q_1, hq_1, h⟩ := op_b h
  exact Nat.le_trans hm (nAS_appendS_S10_13 _ _ _ h)
theorem nAS_appendS_S10 (o0 : cf_O) (r : cf_O) (h : fAS_appendS_S10 o0 = some r) : phSB o0 ≤ phSB r := nAS_appendS_S10_0  o0 r h
set_option maxHeartbeats 4000000 in
set_option maxRecDepth 100000 in
theorem bAS_appendS_S10_33 {p : Program} {l : Launch} {e : Env} {s : State} {m : MethodId} {below : List Frame} {meth : Method} {c : Code} {A : Nat → Prop} {D : va_G} {K : Nat → ClassId} {h0 : Nat} {os : cf_O} {AR : Array Value} (C : (dc_C p s m AR meth c cAS_appendS 3 (Option.some (Jvm.ClassFile.FieldType.object "java/lang/AbstractStringBuilder")) yAS_appendS ∧ cf_E D K A s s.heap ∧ ∀ q, s.heap.size ≤ q → A q)) (v2 : Int32) (o0 : cf_O) (r : cf_O) (h : fAS_appendS_S10_33 v2 o0 = some r) {a0 : Nat → Nat} {H : Heap} {locs : List Loc} {ls : Array Slot} (hg : phSB os ≤ phSB o0) (hP : va_P D vwCl (wSB K h0 a0 o0) H) (hD : va_D A (wSB K h0 a0 o0)) (hS : va_S A s.heap H locs) (hl : lv_has ls 3 [(0, .ref h0), (2, .int v2)]) : W p l e ({ frames := 4, cells := (gC (phSB os) (phSB r)), slots := (gS (phSB os) (phSB r)), locals := 124 }) s m AR below meth c H locs (gC (phSB os) (phSB o0)) (gS (phSB os) (phSB o0)) (MQ below (va_Qr (fun (_ : Nat → Nat) => True) (fun (u : Nat → Nat) q t => cf_At D A (wSB K h0 u r) t ∧ q = h0) A) AR s (gC (phSB os) (phSB r)) (gS (phSB os) (phSB r)) A) (F0 m 33 ls []) := by
  obtain ⟨⟨hx, hb, hr, hts, hown, hlocks, hin, hml⟩, hE, hA⟩ := id C
  have hK := hE.k
  refine lv_aload_n hx hb dAS_appendS_33 rfl (lv_at hl 0 rfl) ?_
  refine lv_dup hx hb dAS_appendS_34 rfl ?_
  refine va_get (D := D) (ci := 13) (v := .int (o0.1 3)) (C := RSB) (T := TSB) (N := 4) hx hb hts inSB hown hK hP 0 rfl rfl 3 (by decide) (hts _ wv_457) (fun _ h9 => h9) rfl dAS_appendS_35 ?_
  refine lv_iload_n hx hb dAS_appendS_38 rfl (lv_at hl 1 rfl) ?_
  refine lv_iadd hx hb dAS_appendS_39 ?_
  refine lv_topi (fun x_1 ex_1 => ?_)
  have h := op_ks ex_1 h
  refine va_put (D := D) (ci := 13) (v := .int x_1) (ty := .int) (C := RSB) (T := TSB) (N := 4) hx hb hts inSB tySB tyokSB nmSB hown hK hP hD hS 0 rfl rfl 3 (by decide) (hts _ wv_457) (fun _ h9 => h9) rfl (by decide +kernel) rfl rfl (Nat.le_of_ble_eq_true rfl) dAS_appendS_40 (fun H locs hP hD hS => ?_)
  have hP : va_P D vwCl (wSB K h0 a0 (fp o0 3 x_1)) H := hP
  have hD : va_D A (wSB K h0 a0 (fp o0 3 x_1)) := hD
  obtain ⟨o_2, eo_2, h⟩ := op_kx h
  rw [← eo_2] at hP hD
  have hf_3 : phSB o_2 = phSB o0 := by rw [eo_2]; rfl
  refine W.widen (k := (gC (phSB os) (phSB o_2))) (n := (gS (phSB os) (phSB o_2))) (by rw [hf_3]; exact Nat.le_refl _) (by rw [hf_3]; exact Nat.le_refl _) ?_
  have hg : phSB os ≤ phSB o_2 := by rw [hf_3]; exact hg
  refine lv_aload_n hx hb dAS_appendS_43 rfl (lv_at hl 0 rfl) ?_
  obtain rfl := Option.some.inj h
  exact dc_aretG a0 hx hb hr ⟨_, rfl⟩ hlocks hP hD hS dAS_appendS_44
set_option maxHeartbeats 4000000 in
set_option maxRecDepth 100000 in
theorem bAS_appendS_S10_24 {p : Program} {l : Launch} {e : Env} {s : State} {m : MethodId} {below : List Frame} {meth : Method} {c : Code} {A : Nat → Prop} {D : va_G} {K : Nat → ClassId} {h0 : Nat} {os : cf_O} {AR : Array Value} (C : (dc_C p s m AR meth c cAS_appendS 3 (Option.some (Jvm.ClassFile.FieldType.object "java/lang/AbstractStringBuilder")) yAS_appendS ∧ cf_E D K A s s.heap ∧ ∀ q, s.heap.size ≤ q → A q)) (v2 : Int32) (o0 : cf_O) (r : cf_O) (h : fAS_appendS_S10_24 v2 o0 = some r) {a0 : Nat → Nat} {H : Heap} {locs : List Loc} {ls : Array Slot} (hg : phSB os ≤ phSB o0) (hP : va_P D vwCl (wSB K h0 a0 o0) H) (hD : va_D A (wSB K h0 a0 o0)) (hS : va_S A s.heap H locs) (hl : lv_has ls 3 [(0, .ref h0), (1, .ref (K 110)), (2, .int v2)]) : W p l e ({ frames := 4, cells := (gC (phSB os) (phSB r)), slots := (gS (phSB os) (phSB r)), locals := 124 }) s m AR below meth c H locs (gC (phSB os) (phSB o0)) (gS (phSB os) (phSB o0)) (MQ below (va_Qr (fun (_ : Nat → Nat) => True) (fun (u : Nat → Nat) q t => cf_At D A (wSB K h0 u r) t ∧ q = h0) A) AR s (gC (phSB os) (phSB r)) (gS (phSB os) (phSB r)) A) (F0 m 24 ls []) := by
  obtain ⟨⟨hx, hb, hr, hts, hown, hlocks, hin, hml⟩, hE, hA⟩ := id C
  have hK := hE.k
  refine lv_aload_n hx hb dAS_appendS_24 rfl (lv_at hl 0 rfl) ?_
  refine lv_aload_n hx hb dAS_appendS_25 rfl (lv_at hl 0 rfl) ?_
  refine va_get (D := D) (ci := 13) (v := .int (o0.1 3)) (C := RSB) (T := TSB) (N := 4) hx hb hts inSB hown hK hP 0 rfl rfl 3 (by decide) (hts _ wv_457) (fun _ h9 => h9) rfl dAS_appendS_26 ?_
  refine lv_aload_n hx hb dAS_appendS_29 rfl (lv_at hl 1 rfl) ?_
  obtain ⟨q_1, hq_1, h⟩ := op_b h
  have hgr_2 : phSB q_1 ≤ phSB r := nAS_appendS_S10_33 _ _ _ h
  have hg2_3 : phSB o0 ≤ phSB q_1 := nAS_putStringAt_S10 _ _ _ hq_1
  refine dc_callv (va_runU (As := [.int (o0.1 3), .ref (K 110)]) (rest := []) ⟨hx, hb, hml, hown, hts⟩ (mAS_putStringAt_S10 l D K _ (o0.1 3) h0 a0 o0 _ hq_1) (cf_cwU (C := "java/lang/StringBuilder") 2 hts (cf_G1 wv_1614) rfl rfl rfl (hts _ wv_166) (hts _ wv_1611) (hts _ wv_2792) (va_Nw.use rfl (hE.n 31 rfl)) (hts _ wv_1613) (by decide +kernel) ⟨Nat.le_of_ble_eq_true rfl, Nat.le_of_ble_eq_true rfl⟩) (dc_preV hE hP hD hS hA rfl 0 rfl) rfl rfl hl.1 rfl (lv_room (Nat.le_of_ble_eq_true rfl)) dAS_appendS_30 ⟨gC_le (Nat.le_trans hg2_3 hgr_2), gS_le (Nat.le_trans hg2_3 hgr_2)⟩) hP hD hS hA (fun H locs hP hD hS => ?_)
  refine W.widen (k := (gC (phSB os) (phSB q_1))) (n := (gS (phSB os) (phSB q_1))) (gC_le hg2_3) (gS_le hg2_3) ?_
  have hg : phSB os ≤ phSB q_1 := Nat.le_trans hg hg2_3
  exact bAS_appendS_S10_33 C _ _ _ h hg hP hD hS (lv_sub hl [0, 2] rfl)
set_option maxHeartbeats 4000000 in
set_option maxRecDepth 100000 in
theorem bAS_appendS_S10_13 {p : Program} {l : Launch} {e : Env} {s : State} {m : MethodId} {below : List Frame} {meth : Method} {c : Code} {A : Nat → Prop} {D : va_G} {K : Nat → ClassId} {h0 : Nat} {os : cf_O} {AR : Array Value} (C : (dc_C p s m AR meth c cAS_appendS 3 (Option.some (Jvm.ClassFile.FieldType.object "java/lang/AbstractStringBuilder")) yAS_appendS ∧ cf_E D K A s s.heap ∧ ∀ q, s.heap.size ≤ q → A q)) (s0 : Int32) (o0 : cf_O) (r : cf_O) (h : fAS_appendS_S10_13 s0 o0 = some r) {a0 : Nat → Nat} {H : Heap} {locs : List Loc} {ls : Array Slot} (hg : phSB os ≤ phSB o0) (hP : va_P D vwCl (wSB K h0 a0 o0) H) (hD : va_D A (wSB K h0 a0 o0)) (hS : va_S A s.heap H locs) (hl : lv_has ls 3 [(0, .ref h0), (1, .ref (K 110))]) : W p l e ({ frames := 4, cells := (gC (phSB os) (phSB r)), slots := (gS (phSB os) (phSB r)), locals := 124 }) s m AR below meth c H locs (gC (phSB os) (phSB o0)) (gS (phSB os) (phSB o0)) (MQ below (va_Qr (fun (_ : Nat → Nat) => True) (fun (u : Nat → Nat) q t => cf_At D A (wSB K h0 u r) t ∧ q = h0) A) AR s (gC (phSB os) (phSB r)) (gS (phSB os) (phSB r)) A) (F0 m 13 ls [.int s0]) := by
  obtain ⟨⟨hx, hb, hr, hts, hown, hlocks, hin, hml⟩, hE, hA⟩ := id C
  have hK := hE.k
  refine lv_istore_n (lv' := [(2, .int s0), (0, .ref h0), (1, .ref (K 110))]) hx hb dAS_appendS_13 rfl hl (by decide) rfl (fun ls hl => ?_)
  refine lv_aload_n hx hb dAS_appendS_14 rfl (lv_at hl 1 rfl) ?_
  refine lv_aload_n hx hb dAS_appendS_15 rfl (lv_at hl 1 rfl) ?_
  refine va_get (D := D) (ci := 13) (v := .int (o0.1 3)) (C := RSB) (T := TSB) (N := 4) hx hb hts inSB hown hK hP 0 rfl rfl 3 (by decide) (hts _ wv_457) (fun _ h9 => h9) rfl dAS_appendS_16 ?_
  refine lv_iload_n hx hb dAS_appendS_19 rfl (lv_at hl 0 rfl) ?_
  refine lv_iadd hx hb dAS_appendS_20 ?_
  refine lv_topi (fun x_1 ex_1 => ?_)
  have h := op_ks ex_1 h
  obtain ⟨q_2, hq_2, h⟩ := op_b h
  have hgr_3 : phSB q_2 ≤ phSB r := nAS_appendS_S10_24 _ _ _ h
  have hg2_4 : phSB o0 ≤ phSB q_2 := nAS_ensureCapacityInternal _ _ _ hq_2
  refine cf_callv (wc := wSB K h0 a0 o0) (wr := []) (va_runU (As := [.int x_1]) (rest := []) ⟨hx, hb, hml, hown, hts⟩ (mAS_ensureCapacityInternal l D K _ x_1 h0 a0 o0 _ hq_2) (cf_cwU (C := "java/lang/StringBuilder") 1 hts (cf_G1 wv_1568) rfl rfl rfl (hts _ wv_166) (hts _ wv_1565) (hts _ wv_2790) (va_Nw.use rfl (hE.n 29 rfl)) (hts _ wv_1567) (by decide +kernel) ⟨Nat.le_of_ble_eq_true rfl, Nat.le_of_ble_eq_true rfl⟩) (cf_preV (wc := wSB K h0 a0 o0) hE hP hD hS hA rfl 0 rfl [0, 1] rfl (by decide +kernel)) rfl rfl hl.1 rfl (lv_room (Nat.le_of_ble_eq_true rfl)) dAS_appendS_21 ⟨Nat.le_trans (gC_add hg hg2_4) (gC_le hgr_3), Nat.le_trans (gS_add hg hg2_4) (gS_le hgr_3)⟩) hP hD hS hA [0, 1] [] rfl rfl (by decide +kernel) (by decide +kernel) (fun a0_6 H locs hw_5 hP hD hS => ?_)
  have hP : va_P D vwCl (wSB K h0 a0_6 q_2) H := hP.sub [0, 1] rfl
  have hD : va_D A (wSB K h0 a0_6 q_2) := hD.sub [0, 1] (by decide +kernel) rfl
  refine W.widen (k := (gC (phSB os) (phSB q_2))) (n := (gS (phSB os) (phSB q_2))) (gC_add hg hg2_4) (gS_add hg hg2_4) ?_
  have hg : phSB os ≤ phSB q_2 := Nat.le_trans hg hg2_4
  exact bAS_appendS_S10_24 C _ _ _ h hg hP hD hS (lv_sub hl [1, 2, 0] rfl)
set_option maxHeartbeats 4000000 in
set_option maxRecDepth 100000 in
theorem bAS_appendS_S10_0 {p : Program} {l : Launch} {e : Env} {s : State} {m : MethodId} {below : List Frame} {meth : Method} {c : Code} {A : Nat → Prop} {D : va_G} {K : Nat → ClassId} {h0 : Nat} {os : cf_O} {AR : Array Value} (C : (dc_C p s m AR meth c cAS_appendS 3 (Option.some (Jvm.ClassFile.FieldType.object "java/lang/AbstractStringBuilder")) yAS_appendS ∧ cf_E D K A s s.heap ∧ ∀ q, s.heap.size ≤ q → A q)) (o0 : cf_O) (r : cf_O) (h : fAS_appendS_S10_0 o0 = some r) {a0 : Nat → Nat} {H : Heap} {locs : List Loc} {ls : Array Slot} (hg : phSB os ≤ phSB o0) (hP : va_P D vwCl (wSB K h0 a0 o0) H) (hD : va_D A (wSB K h0 a0 o0)) (hS : va_S A s.heap H locs) (hl : lv_has ls 3 [(0, .ref h0), (1, .ref (K 110))]) : W p l e ({ frames := 4, cells := (gC (phSB os) (phSB r)), slots := (gS (phSB os) (phSB r)), locals := 124 }) s m AR below meth c H locs (gC (phSB os) (phSB o0)) (gS (phSB os) (phSB o0)) (MQ below (va_Qr (fun (_ : Nat → Nat) => True) (fun (u : Nat → Nat) q t => cf_At D A (wSB K h0 u r) t ∧ q = h0) A) AR s (gC (phSB os) (phSB r)) (gS (phSB os) (phSB r)) A) (F0 m 0 ls []) := by
  obtain ⟨⟨hx, hb, hr, hts, hown, hlocks, hin, hml⟩, hE, hA⟩ := id C
  have hK := hE.k
  refine lv_aload_n hx hb dAS_appendS_0 rfl (lv_at hl 1 rfl) ?_
  refine lv_ifnonnull (tgt := 9) hx hb dAS_appendS_1 (by decide) ?_
  refine lv_aload_n hx hb dAS_appendS_9 rfl (lv_at hl 1 rfl) ?_
  obtain ⟨q_1, hq_1, h⟩ := op_b h
  have hgr_2 : phSB o0 ≤ phSB r := nAS_appendS_S10_13 _ _ _ h
  refine cf_calli (wc := []) (wr := wSB K h0 a0 o0) (va_runV (As := []) (rest := []) ⟨hx, hb, hml, hown, hts⟩ (mJString_length__S10 l D K _ _ hq_1) (cwV 0 hts (cf_GV wv_1610 wv_757 wv_758 wv_168 wv_759) rfl rfl rfl (by decide +kernel) ⟨Nat.le_of_ble_eq_true rfl, Nat.le_of_ble_eq_true rfl⟩) (cf_preO (wc := []) (hE.s 10 rfl).2.1 hE hP hD hS hA [] rfl (by decide +kernel)) rfl rfl hl.1 rfl (lv_room (Nat.le_of_ble_eq_true rfl)) dAS_appendS_10 ⟨gC_le hgr_2, gS_le hgr_2⟩) hP hD hS hA [] [0, 1] rfl rfl (by decide +kernel) (by decide +kernel) (fun r_4 _ H locs hw_5 hP hD hS => ?_)
  subst r_4
  have hP : va_P D vwCl (wSB K h0 a0 o0) H := hP.sub [0, 1] rfl
  have hD : va_D A (wSB K h0 a0 o0) := hD.sub [0, 1] (by decide +kernel) rfl
  refine W.widen (k := (gC (phSB os) (phSB o0))) (n := (gS (phSB os) (phSB o0))) (Nat.le_refl _) (Nat.le_refl _) ?_
  exact bAS_appendS_S10_13 C _ _ _ h hg hP hD hS (lv_sub hl [0, 1] rfl)
set_option maxRecDepth 100000 in
theorem mAS_appendS_S10 (l : Launch) (D : va_G) (K : Nat → ClassId) (sz : Nat) (h0 : Nat) (a0 : Nat → Nat) (o0 : cf_O) (r : cf_O) (h : fAS_appendS_S10 o0 = some r) : Met l yAS_appendS (Cond.code yAS_appendS cAS_appendS 3 (Option.some (Jvm.ClassFile.FieldType.object "java/lang/AbstractStringBuilder")) :: cfB) ({ frames := 4, cells := (gC (phSB o0) (phSB r)), slots := (gS (phSB o0) (phSB r)), locals := 124 }) (va_Pc [.ref h0, .ref (K 110)] (cf_Pre D K sz (wSB K h0 a0 o0))) (va_Qr (fun (_ : Nat → Nat) => True) (fun (u : Nat → Nat) q t => cf_At D (va_A (wSB K h0 a0 o0) sz) (wSB K h0 u r) t ∧ q = h0) (va_A (wSB K h0 a0 o0) sz)) (gC (phSB o0) (phSB r)) (gS (phSB o0) (phSB r)) (va_A (wSB K h0 a0 o0) sz) := by
  refine cf_ofW (y := yAS_appendS) (As := [.ref h0, .ref (K 110)]) (WS := wSB K h0 a0 o0) (maxL := 3) (fun A => (va_Qr (fun (_ : Nat → Nat) => True) (fun (u : Nat → Nat) q t => cf_At D A (wSB K h0 u r) t ∧ q = h0) A)) (by decide) (Nat.le_of_ble_eq_true rfl) ?_
  intro p e s m below meth c A ls En hsz hA hP hD hE hS hl
  have C : (dc_C p s m (([.ref h0, .ref (K 110)] : List Value).toArray) meth c cAS_appendS 3 (Option.some (Jvm.ClassFile.FieldType.object "java/lang/AbstractStringBuilder")) yAS_appendS ∧ cf_E D K A s s.heap ∧ ∀ q, s.heap.size ≤ q → A q) := ⟨En, hE, hA⟩
  refine W.widen (k := gC (phSB o0) (phSB o0)) (n := gS (phSB o0) (phSB o0)) (Nat.zero_le _) (Nat.zero_le _) ?_
  exact bAS_appendS_S10_0 C o0 r h (Nat.le_refl _) hP hD hS hl
set_option maxRecDepth 100000 in
theorem nSB_appendS_S10_5 (o0 : cf_O) (r : cf_O) (h : fSB_appendS_S10_5 o0 = some r) : phSB o0 ≤ phSB r := by
  have hm : phSB o0 ≤ phSB o0 := Nat.le_refl _
  obtain rfl := Option.some.inj h
  exact hm
set_option maxRecDepth 100000 in
theorem nSB_appendS_S10_0 (o0 : cf_O) (r : cf_O) (h : fSB_appendS_S10_0 o0 = some r) : phSB o0 ≤ phSB r := by
  have hm : phSB o0 ≤ phSB o0 := Nat.le_refl _
  obtain ⟨q_1, hq_1, h⟩ := op_b h
  have hm : phSB o0 ≤ phSB q_1 := Nat.le_trans hm (nAS_appendS_S10 _ _ hq_1)
  exact Nat.le_trans hm (nSB_appendS_S10_5 _ _ h)
theorem nSB_appendS_S10 (o0 : cf_O) (r : cf_O) (h : fSB_appendS_S10 o0 = some r) : phSB o0 ≤ phSB r := nSB_appendS_S10_0  o0 r h
set_option maxHeartbeats 4000000 in
set_option maxRecDepth 100000 in
theorem bSB_appendS_S10_5 {p : Program} {l : Launch} {e : Env} {s : State} {m : MethodId} {below : List Frame} {meth : Method} {c : Code} {A : Nat → Prop} {D : va_G} {K : Nat → ClassId} {h0 : Nat} {os : cf_O} {AR : Array Value} (C : (dc_C p s m AR meth c cSB_appendS 2 (Option.some (Jvm.ClassFile.FieldType.object "java/lang/StringBuilder")) ySB_appendS ∧ cf_E D K A s s.heap ∧ ∀ q, s.heap.size ≤ q → A q)) (o0 : cf_O) (r : cf_O) (h : fSB_appendS_S10_5 o0 = some r) {a0 : Nat → Nat} {H : Heap} {locs : List Loc} {ls : Array Slot} (hg : phSB os ≤ phSB o0) (hP : va_P D vwCl (wSB K h0 a0 o0) H) (hD : va_D A (wSB K h0 a0 o0)) (hS : va_S A s.heap H locs) (hl : lv_has ls 2 [(0, .ref h0)]) : W p l e ({ frames := 5, cells := (gC (phSB os) (phSB r)), slots := (gS (phSB os) (phSB r)), locals := 146 }) s m AR below meth c H locs (gC (phSB os) (phSB o0)) (gS (phSB os) (phSB o0)) (MQ below (va_Qr (fun (_ : Nat → Nat) => True) (fun (u : Nat → Nat) q t => cf_At D A (wSB K h0 u r) t ∧ q = h0) A) AR s (gC (phSB os) (phSB r)) (gS (phSB os) (phSB r)) A) (F0 m 5 ls [.ref h0]) := by
  obtain ⟨⟨hx, hb, hr, hts, hown, hlocks, hin, hml⟩, hE, hA⟩ := id C
  have hK := hE.k
  refine lv_pop hx hb dSB_appendS_5 rfl ?_
  refine lv_aload_n hx hb dSB_appendS_6 rfl (lv_at hl 0 rfl) ?_
  obtain rfl := Option.some.inj h
  exact dc_aretG a0 hx hb hr ⟨_, rfl⟩ hlocks hP hD hS dSB_appendS_7
set_option maxHeartbeats 4000000 in
set_option maxRecDepth 100000 in
theorem bSB_appendS_S10_0 {p : Program} {l : Launch} {e : Env} {s : State} {m : MethodId} {below : List Frame} {meth : Method} {c : Code} {A : Nat → Prop} {D : va_G} {K : Nat → ClassId} {h0 : Nat} {os : cf_O} {AR : Array Value} (C : (dc_C p s m AR meth c cSB_appendS 2 (Option.some (Jvm.ClassFile.FieldType.object "java/lang/StringBuilder")) ySB_appendS ∧ cf_E D K A s s.heap ∧ ∀ q, s.heap.size ≤ q → A q)) (o0 : cf_O) (r : cf_O) (h : fSB_appendS_S10_0 o0 = some r) {a0 : Nat → Nat} {H : Heap} {locs : List Loc} {ls : Array Slot} (hg : phSB os ≤ phSB o0) (hP : va_P D vwCl (wSB K h0 a0 o0) H) (hD : va_D A (wSB K h0 a0 o0)) (hS : va_S A s.heap H locs) (hl : lv_has ls 2 [(0, .ref h0), (1, .ref (K 110))]) : W p l e ({ frames := 5, cells := (gC (phSB os) (phSB r)), slots := (gS (phSB os) (phSB r)), locals := 146 }) s m AR below meth c H locs (gC (phSB os) (phSB o0)) (gS (phSB os) (phSB o0)) (MQ below (va_Qr (fun (_ : Nat → Nat) => True) (fun (u : Nat → Nat) q t => cf_At D A (wSB K h0 u r) t ∧ q = h0) A) AR s (gC (phSB os) (phSB r)) (gS (phSB os) (phSB r)) A) (F0 m 0 ls []) := by
  obtain ⟨⟨hx, hb, hr, hts, hown, hlocks, hin, hml⟩, hE, hA⟩ := id C
  have hK := hE.k
  refine lv_aload_n hx hb dSB_appendS_0 rfl (lv_at hl 0 rfl) ?_
  refine lv_aload_n hx hb dSB_appendS_1 rfl (lv_at hl 1 rfl) ?_
  obtain ⟨q_1, hq_1, h⟩ := op_b h
  have hgr_2 : phSB q_1 ≤ phSB r := nSB_appendS_S10_5 _ _ h
  have hg2_3 : phSB o0 ≤ phSB q_1 := nAS_appendS_S10 _ _ hq_1
  refine cf_callR (wc := wSB K h0 a0 o0) (wr := []) (va_runSU (hK.1 13 _ rfl).2 (As := [.ref (K 110)]) (rest := []) ⟨hx, hb, hml, hown, hts⟩ (mAS_appendS_S10 l D K _ h0 a0 o0 _ hq_1) (cf_cwSU 1 hts (cf_G1 wv_1560) rfl rfl rfl (hts _ wv_1558) (hts _ wv_2788) (hts _ wv_466) (hts _ wv_1559) (hts _ wv_166) (by decide +kernel) ⟨Nat.le_of_ble_eq_true rfl, Nat.le_of_ble_eq_true rfl⟩) (cf_preV (wc := wSB K h0 a0 o0) hE hP hD hS hA rfl 0 rfl [0, 1] rfl (by decide +kernel)) rfl rfl hl.1 rfl (lv_room (Nat.le_of_ble_eq_true rfl)) dSB_appendS_2 ⟨Nat.le_trans (gC_add hg hg2_3) (gC_le hgr_2), Nat.le_trans (gS_add hg hg2_3) (gS_le hgr_2)⟩) hP hD hS hA [0, 1] [] rfl rfl (by decide +kernel) (by decide +kernel) (fun a0_5 H locs hw_4 hP hD hS => ?_)
  have hP : va_P D vwCl (wSB K h0 a0_5 q_1) H := hP.sub [0, 1] rfl
  have hD : va_D A (wSB K h0 a0_5 q_1) := hD.sub [0, 1] (by decide +kernel) rfl
  refine W.widen (k := (gC (phSB os) (phSB q_1))) (n := (gS (phSB os) (phSB q_1))) (gC_add hg hg2_3) (gS_add hg hg2_3) ?_
  have hg : phSB os ≤ phSB q_1 := Nat.le_trans hg hg2_3
  exact bSB_appendS_S10_5 C _ _ h hg hP hD hS (lv_sub hl [0] rfl)
set_option maxRecDepth 100000 in
theorem mSB_appendS_S10 (l : Launch) (D : va_G) (K : Nat → ClassId) (sz : Nat) (h0 : Nat) (a0 : Nat → Nat) (o0 : cf_O) (r : cf_O) (h : fSB_appendS_S10 o0 = some r) : Met l ySB_appendS (Cond.code ySB_appendS cSB_appendS 2 (Option.some (Jvm.ClassFile.FieldType.object "java/lang/StringBuilder")) :: cfB) ({ frames := 5, cells := (gC (phSB o0) (phSB r)), slots := (gS (phSB o0) (phSB r)), locals := 146 }) (va_Pc [.ref h0, .ref (K 110)] (cf_Pre D K sz (wSB K h0 a0 o0))) (va_Qr (fun (_ : Nat → Nat) => True) (fun (u : Nat → Nat) q t => cf_At D (va_A (wSB K h0 a0 o0) sz) (wSB K h0 u r) t ∧ q = h0) (va_A (wSB K h0 a0 o0) sz)) (gC (phSB o0) (phSB r)) (gS (phSB o0) (phSB r)) (va_A (wSB K h0 a0 o0) sz) := by
  refine cf_ofW (y := ySB_appendS) (As := [.ref h0, .ref (K 110)]) (WS := wSB K h0 a0 o0) (maxL := 2) (fun A => (va_Qr (fun (_ : Nat → Nat) => True) (fun (u : Nat → Nat) q t => cf_At D A (wSB K h0 u r) t ∧ q = h0) A)) (by decide) (Nat.le_of_ble_eq_true rfl) ?_
  intro p e s m below meth c A ls En hsz hA hP hD hE hS hl
  have C : (dc_C p s m (([.ref h0, .ref (K 110)] : List Value).toArray) meth c cSB_appendS 2 (Option.some (Jvm.ClassFile.FieldType.object "java/lang/StringBuilder")) ySB_appendS ∧ cf_E D K A s s.heap ∧ ∀ q, s.heap.size ≤ q → A q) := ⟨En, hE, hA⟩
  refine W.widen (k := gC (phSB o0) (phSB o0)) (n := gS (phSB o0) (phSB o0)) (Nat.zero_le _) (Nat.zero_le _) ?_
  exact bSB_appendS_S10_0 C o0 r h (Nat.le_refl _) hP hD hS hl
set_option maxHeartbeats 4000000 in
set_option maxRecDepth 100000 in
theorem bJString_coder__S9_14 {p : Program} {l : Launch} {e : Env} {s : State} {m : MethodId} {below : List Frame} {meth : Method} {c : Code} {A : Nat → Prop} {D : va_G} {K : Nat → ClassId} {AR : Array Value} (C : (dc_C p s m AR meth c cJString_coder_ 1 (Option.some Jvm.ClassFile.FieldType.byte) yJString_coder_ ∧ cf_E D K A s s.heap ∧ ∀ q, s.heap.size ≤ q → A q)) (s0 : Int32) (r : Int32) (h : fJString_coder__S9_14 s0 = some r) {H : Heap} {locs : List Loc} {ls : Array Slot} (hP : va_P D vwCl ([]) H) (hD : va_D A ([])) (hS : va_S A s.heap H locs) (hl : lv_has ls 1 []) : W p l e ({ frames := 0, cells := 0, slots := 0, locals := 0 }) s m AR below meth c H locs 0 0 (MQ below (va_Qi (fun (x : Int32) (_ : Unit) => x = r) (fun (_ : Unit) t => cf_At D A ([]) t) A) AR s 0 0 A) (F0 m 14 ls [.int s0]) := by
  obtain ⟨⟨hx, hb, hr, hts, hown, hlocks, hin, hml⟩, hE, hA⟩ := id C
  have hK := hE.k
  obtain ⟨hz_1, h⟩ := op_w h
  obtain rfl := Option.some.inj h
  exact dc_zretn hx hb hr (op_nb hz_1) hlocks rfl hP hD hS dJString_coder__14
set_option maxHeartbeats 4000000 in
set_option maxRecDepth 100000 in
theorem bJString_coder__S9_0 {p : Program} {l : Launch} {e : Env} {s : State} {m : MethodId} {below : List Frame} {meth : Method} {c : Code} {A : Nat → Prop} {D : va_G} {K : Nat → ClassId} {AR : Array Value} (C : (dc_C p s m AR meth c cJString_coder_ 1 (Option.some Jvm.ClassFile.FieldType.byte) yJString_coder_ ∧ cf_E D K A s s.heap ∧ ∀ q, s.heap.size ≤ q → A q)) (r : Int32) (h : fJString_coder__S9_0 = some r) {H : Heap} {locs : List Loc} {ls : Array Slot} (hP : va_P D vwCl ([]) H) (hD : va_D A ([])) (hS : va_S A s.heap H locs) (hl : lv_has ls 1 [(0, .ref (K 109))]) : W p l e ({ frames := 0, cells := 0, slots := 0, locals := 0 }) s m AR below meth c H locs 0 0 (MQ below (va_Qi (fun (x : Int32) (_ : Unit) => x = r) (fun (_ : Unit) t => cf_At D A ([]) t) A) AR s 0 0 A) (F0 m 0 ls []) := by
  obtain ⟨⟨hx, hb, hr, hts, hown, hlocks, hin, hml⟩, hE, hA⟩ := id C
  have hK := hE.k
  refine va_gets hx hb hE.2.2.2.2.2.2.1 hS hown (hts _ wv_764) (fun _ h9 => h9) dJString_coder__0 ?_
  refine lv_if_eq (tgt := 13) hx hb dJString_coder__3 (by decide) (fun c_1 => absurd c_1 (by decide)) (fun _ => ?_)
  refine lv_aload_n hx hb dJString_coder__6 rfl (lv_at hl 0 rfl) ?_
  refine vk_getf hx hb (hE.s 9 rfl).2.2.1 hS hown (hts _ wv_1736) (fun _ h9 => h9) dJString_coder__7 ?_
  refine lv_goto (tgt := 14) hx hb dJString_coder__10 (by decide) ?_
  exact bJString_coder__S9_14 C _ _ h hP hD hS (lv_sub hl [] rfl)
set_option maxRecDepth 100000 in
theorem mJString_coder__S9 (l : Launch) (D : va_G) (K : Nat → ClassId) (sz : Nat) (r : Int32) (h : fJString_coder__S9 = some r) : Met l yJString_coder_ (Cond.code yJString_coder_ cJString_coder_ 1 (Option.some Jvm.ClassFile.FieldType.byte) :: cfB) ({ frames := 0, cells := 0, slots := 0, locals := 0 }) (va_Pc [.ref (K 109)] (cf_Pre D K sz ([]))) (va_Qi (fun (x : Int32) (_ : Unit) => x = r) (fun (_ : Unit) t => cf_At D (va_A ([]) sz) ([]) t) (va_A ([]) sz)) 0 0 (va_A ([]) sz) := by
  refine cf_ofW (y := yJString_coder_) (As := [.ref (K 109)]) (WS := []) (maxL := 1) (fun A => (va_Qi (fun (x : Int32) (_ : Unit) => x = r) (fun (_ : Unit) t => cf_At D A ([]) t) A)) (by decide) (Nat.le_of_ble_eq_true rfl) ?_
  intro p e s m below meth c A ls En hsz hA hP hD hE hS hl
  have C : (dc_C p s m (([.ref (K 109)] : List Value).toArray) meth c cJString_coder_ 1 (Option.some Jvm.ClassFile.FieldType.byte) yJString_coder_ ∧ cf_E D K A s s.heap ∧ ∀ q, s.heap.size ≤ q → A q) := ⟨En, hE, hA⟩
  exact bJString_coder__S9_0 C r h hP hD hS hl
set_option maxHeartbeats 4000000 in
set_option maxRecDepth 100000 in
theorem bJString_length__S9_0 {p : Program} {l : Launch} {e : Env} {s : State} {m : MethodId} {below : List Frame} {meth : Method} {c : Code} {A : Nat → Prop} {D : va_G} {K : Nat → ClassId} {AR : Array Value} (C : (dc_C p s m AR meth c cJString_length_ 1 (Option.some Jvm.ClassFile.FieldType.int) yJString_length_ ∧ cf_E D K A s s.heap ∧ ∀ q, s.heap.size ≤ q → A q)) (r : Int32) (h : fJString_length__S9_0 = some r) {H : Heap} {locs : List Loc} {ls : Array Slot} (hP : va_P D vwCl ([]) H) (hD : va_D A ([])) (hS : va_S A s.heap H locs) (hl : lv_has ls 1 [(0, .ref (K 109))]) : W p l e ({ frames := 1, cells := 0, slots := 0, locals := 20 }) s m AR below meth c H locs 0 0 (MQ below (va_Qi (fun (x : Int32) (_ : Unit) => x = r) (fun (_ : Unit) t => cf_At D A ([]) t) A) AR s 0 0 A) (F0 m 0 ls []) := by
  obtain ⟨⟨hx, hb, hr, hts, hown, hlocks, hin, hml⟩, hE, hA⟩ := id C
  have hK := hE.k
  refine lv_aload_n hx hb dJString_length__0 rfl (lv_at hl 0 rfl) ?_
  refine vk_getf hx hb (hE.s 9 rfl).2.2.2.1 hS hown (hts _ wv_1735) (fun _ h9 => h9) dJString_length__1 ?_
  refine va_tlen (v := 3) hx hb (hE.s 9 rfl).2.2.2.2 hS rfl dJString_length__4 ?_
  refine lv_aload_n hx hb dJString_length__5 rfl (lv_at hl 0 rfl) ?_
  obtain ⟨q_1, hq_1, h⟩ := op_b h
  refine cf_calli (wc := []) (wr := []) (va_runV (As := []) (rest := [.int 3]) ⟨hx, hb, hml, hown, hts⟩ (mJString_coder__S9 l D K _ _ hq_1) (cwV 0 hts (cf_GV wv_760 wv_761 wv_762 wv_168 wv_763) rfl rfl rfl (by decide +kernel) ⟨Nat.le_of_ble_eq_true rfl, Nat.le_of_ble_eq_true rfl⟩) (cf_preO (wc := []) (hE.s 9 rfl).2.1 hE hP hD hS hA [] rfl (by decide +kernel)) rfl rfl hl.1 rfl (lv_room (Nat.le_of_ble_eq_true rfl)) dJString_length__6 ⟨Nat.le_of_ble_eq_true rfl, Nat.le_of_ble_eq_true rfl⟩) hP hD hS hA [] [] rfl rfl (by decide +kernel) (by decide +kernel) (fun r_2 _ H locs hw_3 hP hD hS => ?_)
  subst r_2
  have hP : va_P D vwCl ([]) H := hP.sub [] rfl
  have hD : va_D A ([]) := hD.sub [] (by decide +kernel) rfl
  refine lv_ishr hx hb dJString_length__9 ?_
  refine lv_topi (fun x_4 ex_4 => ?_)
  have h := op_ks ex_4 h
  obtain rfl := Option.some.inj h
  exact dc_iret hx hb hr hlocks rfl hP hD hS dJString_length__10
set_option maxRecDepth 100000 in
theorem mJString_length__S9 (l : Launch) (D : va_G) (K : Nat → ClassId) (sz : Nat) (r : Int32) (h : fJString_length__S9 = some r) : Met l yJString_length_ (Cond.code yJString_length_ cJString_length_ 1 (Option.some Jvm.ClassFile.FieldType.int) :: cfB) ({ frames := 1, cells := 0, slots := 0, locals := 20 }) (va_Pc [.ref (K 109)] (cf_Pre D K sz ([]))) (va_Qi (fun (x : Int32) (_ : Unit) => x = r) (fun (_ : Unit) t => cf_At D (va_A ([]) sz) ([]) t) (va_A ([]) sz)) 0 0 (va_A ([]) sz) := by
  refine cf_ofW (y := yJString_length_) (As := [.ref (K 109)]) (WS := []) (maxL := 1) (fun A => (va_Qi (fun (x : Int32) (_ : Unit) => x = r) (fun (_ : Unit) t => cf_At D A ([]) t) A)) (by decide) (Nat.le_of_ble_eq_true rfl) ?_
  intro p e s m below meth c A ls En hsz hA hP hD hE hS hl
  have C : (dc_C p s m (([.ref (K 109)] : List Value).toArray) meth c cJString_length_ 1 (Option.some Jvm.ClassFile.FieldType.int) yJString_length_ ∧ cf_E D K A s s.heap ∧ ∀ q, s.heap.size ≤ q → A q) := ⟨En, hE, hA⟩
  exact bJString_length__S9_0 C r h hP hD hS hl
set_option maxHeartbeats 4000000 in
set_option maxRecDepth 100000 in
theorem bAS_inflateIfNeededFor_S9_21 {p : Program} {l : Launch} {e : Env} {s : State} {m : MethodId} {below : List Frame} {meth : Method} {c : Code} {A : Nat → Prop} {D : va_G} {K : Nat → ClassId} {h0 : Nat} {a0 : Nat → Nat} {AR : Array Value} (C : (dc_C p s m AR meth c cAS_inflateIfNeededFor 2 (Option.none : Option Jvm.ClassFile.FieldType) yAS_inflateIfNeededFor ∧ cf_E D K A s s.heap ∧ ∀ q, s.heap.size ≤ q → A q)) (o0 : cf_O) (r : Unit) (h : fAS_inflateIfNeededFor_S9_21 o0 = some r) {H : Heap} {locs : List Loc} {ls : Array Slot} (hP : va_P D vwCl (wSB K h0 a0 o0) H) (hD : va_D A (wSB K h0 a0 o0)) (hS : va_S A s.heap H locs) (hl : lv_has ls 2 []) : W p l e ({ frames := 1, cells := 0, slots := 0, locals := 20 }) s m AR below meth c H locs 0 0 (MQ below (va_Qv (fun (_ : Unit) => True) (fun (_ : Unit) t => cf_At D A (wSB K h0 a0 o0) t) A) AR s 0 0 A) (F0 m 21 ls []) := by
  obtain ⟨⟨hx, hb, hr, hts, hown, hlocks, hin, hml⟩, hE, hA⟩ := id C
  have hK := hE.k
  obtain rfl := Option.some.inj h
  exact dc_vret hx hb hr hlocks rfl hP hD hS dAS_inflateIfNeededFor_21
set_option maxHeartbeats 4000000 in
set_option maxRecDepth 100000 in
theorem bAS_inflateIfNeededFor_S9_0 {p : Program} {l : Launch} {e : Env} {s : State} {m : MethodId} {below : List Frame} {meth : Method} {c : Code} {A : Nat → Prop} {D : va_G} {K : Nat → ClassId} {h0 : Nat} {a0 : Nat → Nat} {AR : Array Value} (C : (dc_C p s m AR meth c cAS_inflateIfNeededFor 2 (Option.none : Option Jvm.ClassFile.FieldType) yAS_inflateIfNeededFor ∧ cf_E D K A s s.heap ∧ ∀ q, s.heap.size ≤ q → A q)) (o0 : cf_O) (r : Unit) (h : fAS_inflateIfNeededFor_S9_0 o0 = some r) {H : Heap} {locs : List Loc} {ls : Array Slot} (hP : va_P D vwCl (wSB K h0 a0 o0) H) (hD : va_D A (wSB K h0 a0 o0)) (hS : va_S A s.heap H locs) (hl : lv_has ls 2 [(0, .ref h0), (1, .ref (K 109))]) : W p l e ({ frames := 1, cells := 0, slots := 0, locals := 20 }) s m AR below meth c H locs 0 0 (MQ below (va_Qv (fun (_ : Unit) => True) (fun (_ : Unit) t => cf_At D A (wSB K h0 a0 o0) t) A) AR s 0 0 A) (F0 m 0 ls []) := by
  obtain ⟨⟨hx, hb, hr, hts, hown, hlocks, hin, hml⟩, hE, hA⟩ := id C
  have hK := hE.k
  refine va_gets hx hb hE.2.2.2.2.2.2.1 hS hown (hts _ wv_444) (fun _ h9 => h9) dAS_inflateIfNeededFor_0 ?_
  refine lv_if_eq (tgt := 21) hx hb dAS_inflateIfNeededFor_3 (by decide) (fun c_1 => absurd c_1 (by decide)) (fun _ => ?_)
  refine lv_aload_n hx hb dAS_inflateIfNeededFor_6 rfl (lv_at hl 0 rfl) ?_
  refine va_get (D := D) (ci := 13) (v := .int (o0.1 1)) (C := RSB) (T := TSB) (N := 4) hx hb hts inSB hown hK hP 0 rfl rfl 1 (by decide) (hts _ wv_454) (fun _ h9 => h9) rfl dAS_inflateIfNeededFor_7 ?_
  refine lv_aload_n hx hb dAS_inflateIfNeededFor_10 rfl (lv_at hl 1 rfl) ?_
  obtain ⟨q_2, hq_2, h⟩ := op_b h
  refine cf_calli (wc := []) (wr := wSB K h0 a0 o0) (va_runV (As := []) (rest := [.int (o0.1 1)]) ⟨hx, hb, hml, hown, hts⟩ (mJString_coder__S9 l D K _ _ hq_2) (cwV 0 hts (cf_GV wv_1619 wv_761 wv_762 wv_168 wv_763) rfl rfl rfl (by decide +kernel) ⟨Nat.le_of_ble_eq_true rfl, Nat.le_of_ble_eq_true rfl⟩) (cf_preO (wc := []) (hE.s 9 rfl).2.1 hE hP hD hS hA [] rfl (by decide +kernel)) rfl rfl hl.1 rfl (lv_room (Nat.le_of_ble_eq_true rfl)) dAS_inflateIfNeededFor_11 ⟨Nat.le_of_ble_eq_true rfl, Nat.le_of_ble_eq_true rfl⟩) hP hD hS hA [] [0, 1] rfl rfl (by decide +kernel) (by decide +kernel) (fun r_3 _ H locs hw_4 hP hD hS => ?_)
  subst r_3
  have hP : va_P D vwCl (wSB K h0 a0 o0) H := hP.sub [0, 1] rfl
  have hD : va_D A (wSB K h0 a0 o0) := hD.sub [0, 1] (by decide +kernel) rfl
  refine lv_icmp_eq (tgt := 21) hx hb dAS_inflateIfNeededFor_14 (by decide) (fun c_5 => ?_) (fun c_5 => ?_)
  · have h := op_t c_5 h
    exact bAS_inflateIfNeededFor_S9_21 C _ _ h hP hD hS (lv_sub hl [] rfl)
  · have h := op_f c_5 h
    refine lv_aload_n hx hb dAS_inflateIfNeededFor_17 rfl (lv_at hl 0 rfl) ?_
    cases h
set_option maxRecDepth 100000 in
theorem mAS_inflateIfNeededFor_S9 (l : Launch) (D : va_G) (K : Nat → ClassId) (sz : Nat) (h0 : Nat) (a0 : Nat → Nat) (o0 : cf_O) (r : Unit) (h : fAS_inflateIfNeededFor_S9 o0 = some r) : Met l yAS_inflateIfNeededFor (Cond.code yAS_inflateIfNeededFor cAS_inflateIfNeededFor 2 (Option.none : Option Jvm.ClassFile.FieldType) :: cfB) ({ frames := 1, cells := 0, slots := 0, locals := 20 }) (va_Pc [.ref h0, .ref (K 109)] (cf_Pre D K sz (wSB K h0 a0 o0))) (va_Qv (fun (_ : Unit) => True) (fun (_ : Unit) t => cf_At D (va_A (wSB K h0 a0 o0) sz) (wSB K h0 a0 o0) t) (va_A (wSB K h0 a0 o0) sz)) 0 0 (va_A (wSB K h0 a0 o0) sz) := by
  refine cf_ofW (y := yAS_inflateIfNeededFor) (As := [.ref h0, .ref (K 109)]) (WS := wSB K h0 a0 o0) (maxL := 2) (fun A => (va_Qv (fun (_ : Unit) => True) (fun (_ : Unit) t => cf_At D A (wSB K h0 a0 o0) t) A)) (by decide) (Nat.le_of_ble_eq_true rfl) ?_
  intro p e s m below meth c A ls En hsz hA hP hD hE hS hl
  have C : (dc_C p s m (([.ref h0, .ref (K 109)] : List Value).toArray) meth c cAS_inflateIfNeededFor 2 (Option.none : Option Jvm.ClassFile.FieldType) yAS_inflateIfNeededFor ∧ cf_E D K A s s.heap ∧ ∀ q, s.heap.size ≤ q → A q) := ⟨En, hE, hA⟩
  exact bAS_inflateIfNeededFor_S9_0 C o0 r h hP hD hS hl
set_option maxRecDepth 100000 in
theorem nJString_getBytes_ABIB_S9_SB0_0 (v2 : Int32) (v3 : Int32) (o0 : cf_O) (r : cf_O) (h : fJString_getBytes_ABIB_S9_SB0_0 v2 v3 o0 = some r) : phSB o0 ≤ phSB r := by
  have hm : phSB o0 ≤ phSB o0 := Nat.le_refl _
  obtain ⟨q_1, hq_1, h⟩ := op_b h
  rcases (Classical.em (q_1 = v3)).symm with c_4 | c_4
  · have h := op_f c_4 h
    cases h
  · have h := op_t c_4 h
    obtain ⟨x_5, ex_5, h⟩ := op_kx h
    obtain ⟨hi_6, h⟩ := op_n h
    obtain ⟨o_7, eo_7, h⟩ := op_kx h
    have hm : phSB o0 ≤ phSB o_7 := by rw [eo_7]; exact hm
    obtain rfl := Option.some.inj h
    exact hm
theorem nJString_getBytes_ABIB_S9_SB0 (v2 : Int32) (v3 : Int32) (o0 : cf_O) (r : cf_O) (h : fJString_getBytes_ABIB_S9_SB0 v2 v3 o0 = some r) : phSB o0 ≤ phSB r := nJString_getBytes_ABIB_S9_SB0_0  v2 v3 o0 r h
set_option maxHeartbeats 4000000 in
set_option maxRecDepth 100000 in
theorem bJString_getBytes_ABIB_S9_SB0_0 {p : Program} {l : Launch} {e : Env} {s : State} {m : MethodId} {below : List Frame} {meth : Method} {c : Code} {A : Nat → Prop} {D : va_G} {K : Nat → ClassId} {h0 : Nat} {a0 : Nat → Nat} {AR : Array Value} (C : (dc_C p s m AR meth c cJString_getBytes_ABIB 4 (Option.none : Option Jvm.ClassFile.FieldType) yJString_getBytes_ABIB ∧ cf_E D K A s s.heap ∧ ∀ q, s.heap.size ≤ q → A q)) (v2 : Int32) (v3 : Int32) (o0 : cf_O) (r : cf_O) (h : fJString_getBytes_ABIB_S9_SB0_0 v2 v3 o0 = some r) {H : Heap} {locs : List Loc} {ls : Array Slot} (hP : va_P D vwCl (wSB K h0 a0 o0) H) (hD : va_D A (wSB K h0 a0 o0)) (hS : va_S A s.heap H locs) (hl : lv_has ls 4 [(0, .ref (K 109)), (1, .ref (a0 0)), (2, .int v2), (3, .int v3)]) : W p l e ({ frames := 1, cells := 0, slots := 0, locals := 60 }) s m AR below meth c H locs 0 0 (MQ below (va_Qv (fun (_ : Unit) => True) (fun (_ : Unit) t => cf_At D A (wSB K h0 a0 r) t) A) AR s 0 0 A) (F0 m 0 ls []) := by
  obtain ⟨⟨hx, hb, hr, hts, hown, hlocks, hin, hml⟩, hE, hA⟩ := id C
  have hK := hE.k
  refine lv_aload_n hx hb dJString_getBytes_ABIB_0 rfl (lv_at hl 0 rfl) ?_
  obtain ⟨q_1, hq_1, h⟩ := op_b h
  refine cf_calli (wc := []) (wr := wSB K h0 a0 o0) (va_runV (As := []) (rest := []) ⟨hx, hb, hml, hown, hts⟩ (mJString_coder__S9 l D K _ _ hq_1) (cwV 0 hts (cf_GV wv_760 wv_761 wv_762 wv_168 wv_763) rfl rfl rfl (by decide +kernel) ⟨Nat.le_of_ble_eq_true rfl, Nat.le_of_ble_eq_true rfl⟩) (cf_preO (wc := []) (hE.s 9 rfl).2.1 hE hP hD hS hA [] rfl (by decide +kernel)) rfl rfl hl.1 rfl (lv_room (Nat.le_of_ble_eq_true rfl)) dJString_getBytes_ABIB_1 ⟨Nat.le_of_ble_eq_true rfl, Nat.le_of_ble_eq_true rfl⟩) hP hD hS hA [] [0, 1] rfl rfl (by decide +kernel) (by decide +kernel) (fun r_2 _ H locs hw_3 hP hD hS => ?_)
  subst r_2
  have hP : va_P D vwCl (wSB K h0 a0 o0) H := hP.sub [0, 1] rfl
  have hD : va_D A (wSB K h0 a0 o0) := hD.sub [0, 1] (by decide +kernel) rfl
  refine lv_iload_n hx hb dJString_getBytes_ABIB_4 rfl (lv_at hl 3 rfl) ?_
  refine lv_icmp_ne (tgt := 28) hx hb dJString_getBytes_ABIB_5 (by decide) (fun c_4 => ?_) (fun c_4 => ?_)
  · have h := op_f c_4 h
    refine lv_aload_n hx hb dJString_getBytes_ABIB_28 rfl (lv_at hl 0 rfl) ?_
    refine vk_getf hx hb (hE.s 9 rfl).2.2.2.1 hS hown (hts _ wv_1735) (fun _ h9 => h9) dJString_getBytes_ABIB_29 ?_
    refine lv_iconst (v := 0) hx hb dJString_getBytes_ABIB_32 (by decide) ?_
    refine lv_aload_n hx hb dJString_getBytes_ABIB_33 rfl (lv_at hl 1 rfl) ?_
    refine lv_iload_n hx hb dJString_getBytes_ABIB_34 rfl (lv_at hl 2 rfl) ?_
    refine lv_aload_n hx hb dJString_getBytes_ABIB_35 rfl (lv_at hl 0 rfl) ?_
    refine vk_getf hx hb (hE.s 9 rfl).2.2.2.1 hS hown (hts _ wv_1735) (fun _ h9 => h9) dJString_getBytes_ABIB_36 ?_
    refine va_tlen (v := 3) hx hb (hE.s 9 rfl).2.2.2.2 hS rfl dJString_getBytes_ABIB_39 ?_
    cases h
  · have h := op_t c_4 h
    refine lv_aload_n hx hb dJString_getBytes_ABIB_8 rfl (lv_at hl 0 rfl) ?_
    refine vk_getf hx hb (hE.s 9 rfl).2.2.2.1 hS hown (hts _ wv_1735) (fun _ h9 => h9) dJString_getBytes_ABIB_9 ?_
    refine lv_iconst (v := 0) hx hb dJString_getBytes_ABIB_12 (by decide) ?_
    refine lv_aload_n hx hb dJString_getBytes_ABIB_13 rfl (lv_at hl 1 rfl) ?_
    refine lv_iload_n hx hb dJString_getBytes_ABIB_14 rfl (lv_at hl 2 rfl) ?_
    refine lv_iload_n hx hb dJString_getBytes_ABIB_15 rfl (lv_at hl 3 rfl) ?_
    refine lv_ishl hx hb dJString_getBytes_ABIB_16 ?_
    refine lv_topi (fun x_5 ex_5 => ?_)
    have h := op_ks ex_5 h
    refine lv_aload_n hx hb dJString_getBytes_ABIB_17 rfl (lv_at hl 0 rfl) ?_
    refine vk_getf hx hb (hE.s 9 rfl).2.2.2.1 hS hown (hts _ wv_1735) (fun _ h9 => h9) dJString_getBytes_ABIB_18 ?_
    refine va_tlen (v := 3) hx hb (hE.s 9 rfl).2.2.2.2 hS rfl dJString_getBytes_ABIB_21 ?_
    obtain ⟨hi_6, h⟩ := op_n h
    refine vk_copyt (D := D) (f := cf_sb 9) hx hb (hml.trans hl.1.symm) hown (hts _ wv_1643) (hts _ wv_1295) (hts _ wv_1294) (hts _ wv_187) hK hP hD hS (hE.s 9 rfl).2.2.2.2 1 2 rfl rfl (by decide) (fun z => hi_6 (Or.inl z)) (by decide) (by decide) (Nat.not_lt.mp (fun z => hi_6 (Or.inr z))) (by decide) (Nat.le_of_ble_eq_true rfl) (Nat.le_of_ble_eq_true rfl) dJString_getBytes_ABIB_22 (fun H locs hP hD hS => ?_)
    have hP : va_P D vwCl (wSB K h0 a0 (cb o0 0 9 x_5 3)) H := hP
    have hD : va_D A (wSB K h0 a0 (cb o0 0 9 x_5 3)) := hD
    obtain ⟨o_7, eo_7, h⟩ := op_kx h
    rw [← eo_7] at hP hD
    refine lv_goto (tgt := 43) hx hb dJString_getBytes_ABIB_25 (by decide) ?_
    obtain rfl := Option.some.inj h
    exact dc_vret hx hb hr hlocks rfl hP hD hS dJString_getBytes_ABIB_43
set_option maxRecDepth 100000 in
theorem mJString_getBytes_ABIB_S9_SB0 (l : Launch) (D : va_G) (K : Nat → ClassId) (sz : Nat) (v2 : Int32) (v3 : Int32) (h0 : Nat) (a0 : Nat → Nat) (o0 : cf_O) (r : cf_O) (h : fJString_getBytes_ABIB_S9_SB0 v2 v3 o0 = some r) : Met l yJString_getBytes_ABIB (Cond.code yJString_getBytes_ABIB cJString_getBytes_ABIB 4 (Option.none : Option Jvm.ClassFile.FieldType) :: cfB) ({ frames := 1, cells := 0, slots := 0, locals := 60 }) (va_Pc [.ref (K 109), .ref (a0 0), .int v2, .int v3] (cf_Pre D K sz (wSB K h0 a0 o0))) (va_Qv (fun (_ : Unit) => True) (fun (_ : Unit) t => cf_At D (va_A (wSB K h0 a0 o0) sz) (wSB K h0 a0 r) t) (va_A (wSB K h0 a0 o0) sz)) 0 0 (va_A (wSB K h0 a0 o0) sz) := by
  refine cf_ofW (y := yJString_getBytes_ABIB) (As := [.ref (K 109), .ref (a0 0), .int v2, .int v3]) (WS := wSB K h0 a0 o0) (maxL := 4) (fun A => (va_Qv (fun (_ : Unit) => True) (fun (_ : Unit) t => cf_At D A (wSB K h0 a0 r) t) A)) (by decide) (Nat.le_of_ble_eq_true rfl) ?_
  intro p e s m below meth c A ls En hsz hA hP hD hE hS hl
  have C : (dc_C p s m (([.ref (K 109), .ref (a0 0), .int v2, .int v3] : List Value).toArray) meth c cJString_getBytes_ABIB 4 (Option.none : Option Jvm.ClassFile.FieldType) yJString_getBytes_ABIB ∧ cf_E D K A s s.heap ∧ ∀ q, s.heap.size ≤ q → A q) := ⟨En, hE, hA⟩
  exact bJString_getBytes_ABIB_S9_SB0_0 C v2 v3 o0 r h hP hD hS hl
set_option maxRecDepth 100000 in
theorem nAS_putStringAt_S9_0 (v1 : Int32) (o0 : cf_O) (r : cf_O) (h : fAS_putStringAt_S9_0 v1 o0 = some r) : phSB o0 ≤ phSB r := by
  have hm : phSB o0 ≤ phSB o0 := Nat.le_refl _
  obtain ⟨q_1, hq_1, h⟩ := op_b h
  obtain ⟨q_3, hq_3, h⟩ := op_b h
  have hm : phSB o0 ≤ phSB q_3 := Nat.le_trans hm (nJString_getBytes_ABIB_S9_SB0 _ _ _ _ hq_3)
  obtain rfl := Option.some.inj h
  exact hm
theorem nAS_putStringAt_S9 (v1 : Int32) (o0 : cf_O) (r : cf_O) (h : fAS_putStringAt_S9 v1 o0 = some r) : phSB o0 ≤ phSB r := nAS_putStringAt_S9_0  v1 o0 r h
set_option maxHeartbeats 4000000 in
set_option maxRecDepth 100000 in
theorem bAS_putStringAt_S9_0 {p : Program} {l : Launch} {e : Env} {s : State} {m : MethodId} {below : List Frame} {meth : Method} {c : Code} {A : Nat → Prop} {D : va_G} {K : Nat → ClassId} {h0 : Nat} {a0 : Nat → Nat} {AR : Array Value} (C : (dc_C p s m AR meth c cAS_putStringAt 3 (Option.none : Option Jvm.ClassFile.FieldType) yAS_putStringAt ∧ cf_E D K A s s.heap ∧ ∀ q, s.heap.size ≤ q → A q)) (v1 : Int32) (o0 : cf_O) (r : cf_O) (h : fAS_putStringAt_S9_0 v1 o0 = some r) {H : Heap} {locs : List Loc} {ls : Array Slot} (hP : va_P D vwCl (wSB K h0 a0 o0) H) (hD : va_D A (wSB K h0 a0 o0)) (hS : va_S A s.heap H locs) (hl : lv_has ls 3 [(0, .ref h0), (1, .int v1), (2, .ref (K 109))]) : W p l e ({ frames := 2, cells := 0, slots := 0, locals := 83 }) s m AR below meth c H locs 0 0 (MQ below (va_Qv (fun (_ : Unit) => True) (fun (_ : Unit) t => cf_At D A (wSB K h0 a0 r) t) A) AR s 0 0 A) (F0 m 0 ls []) := by
  obtain ⟨⟨hx, hb, hr, hts, hown, hlocks, hin, hml⟩, hE, hA⟩ := id C
  have hK := hE.k
  refine lv_aload_n hx hb dAS_putStringAt_0 rfl (lv_at hl 0 rfl) ?_
  refine lv_aload_n hx hb dAS_putStringAt_1 rfl (lv_at hl 2 rfl) ?_
  obtain ⟨q_1, hq_1, h⟩ := op_b h
  refine dc_callv (va_runU (As := [.ref (K 109)]) (rest := []) ⟨hx, hb, hml, hown, hts⟩ (mAS_inflateIfNeededFor_S9 l D K _ h0 a0 o0 _ hq_1) (cf_cwU (C := "java/lang/StringBuilder") 1 hts (cf_G1 wv_1618) rfl rfl rfl (hts _ wv_166) (hts _ wv_1615) (hts _ wv_2793) (va_Nw.use rfl (hE.n 32 rfl)) (hts _ wv_1617) (by decide +kernel) ⟨Nat.le_of_ble_eq_true rfl, Nat.le_of_ble_eq_true rfl⟩) (dc_preV hE hP hD hS hA rfl 0 rfl) rfl rfl hl.1 rfl (lv_room (Nat.le_of_ble_eq_true rfl)) dAS_putStringAt_2 ⟨Nat.le_of_ble_eq_true rfl, Nat.le_of_ble_eq_true rfl⟩) hP hD hS hA (fun H locs hP hD hS => ?_)
  refine lv_aload_n hx hb dAS_putStringAt_5 rfl (lv_at hl 2 rfl) ?_
  refine lv_aload_n hx hb dAS_putStringAt_6 rfl (lv_at hl 0 rfl) ?_
  refine va_get (D := D) (ci := 13) (v := .ref (a0 0)) (C := RSB) (T := TSB) (N := 4) hx hb hts inSB hown hK hP 0 rfl rfl 0 (by decide) (hts _ wv_453) (fun _ h9 => h9) rfl dAS_putStringAt_7 ?_
  refine lv_iload_n hx hb dAS_putStringAt_10 rfl (lv_at hl 1 rfl) ?_
  refine lv_aload_n hx hb dAS_putStringAt_11 rfl (lv_at hl 0 rfl) ?_
  refine va_get (D := D) (ci := 13) (v := .int (o0.1 1)) (C := RSB) (T := TSB) (N := 4) hx hb hts inSB hown hK hP 0 rfl rfl 1 (by decide) (hts _ wv_454) (fun _ h9 => h9) rfl dAS_putStringAt_12 ?_
  obtain ⟨q_3, hq_3, h⟩ := op_b h
  refine cf_callv (wc := wSB K h0 a0 o0) (wr := []) (va_runV (As := [.ref (a0 0), .int v1, .int (o0.1 1)]) (rest := []) ⟨hx, hb, hml, hown, hts⟩ (mJString_getBytes_ABIB_S9_SB0 l D K _ v1 (o0.1 1) h0 a0 o0 _ hq_3) (cwV 3 hts (cf_GV wv_1639 wv_1640 wv_1641 wv_168 wv_1642) rfl rfl rfl (by decide +kernel) ⟨Nat.le_of_ble_eq_true rfl, Nat.le_of_ble_eq_true rfl⟩) (cf_preO (wc := wSB K h0 a0 o0) (hE.s 9 rfl).2.1 hE hP hD hS hA [0, 1] rfl (by decide +kernel)) rfl rfl hl.1 rfl (lv_room (Nat.le_of_ble_eq_true rfl)) dAS_putStringAt_15 ⟨Nat.le_of_ble_eq_true rfl, Nat.le_of_ble_eq_true rfl⟩) hP hD hS hA [0, 1] [] rfl rfl (by decide +kernel) (by decide +kernel) (fun _ H locs hw_4 hP hD hS => ?_)
  have hP : va_P D vwCl (wSB K h0 a0 q_3) H := hP.sub [0, 1] rfl
  have hD : va_D A (wSB K h0 a0 q_3) := hD.sub [0, 1] (by decide +kernel) rfl
  obtain rfl := Option.some.inj h
  exact dc_vret hx hb hr hlocks rfl hP hD hS dAS_putStringAt_18
set_option maxRecDepth 100000 in
theorem mAS_putStringAt_S9 (l : Launch) (D : va_G) (K : Nat → ClassId) (sz : Nat) (v1 : Int32) (h0 : Nat) (a0 : Nat → Nat) (o0 : cf_O) (r : cf_O) (h : fAS_putStringAt_S9 v1 o0 = some r) : Met l yAS_putStringAt (Cond.code yAS_putStringAt cAS_putStringAt 3 (Option.none : Option Jvm.ClassFile.FieldType) :: cfB) ({ frames := 2, cells := 0, slots := 0, locals := 83 }) (va_Pc [.ref h0, .int v1, .ref (K 109)] (cf_Pre D K sz (wSB K h0 a0 o0))) (va_Qv (fun (_ : Unit) => True) (fun (_ : Unit) t => cf_At D (va_A (wSB K h0 a0 o0) sz) (wSB K h0 a0 r) t) (va_A (wSB K h0 a0 o0) sz)) 0 0 (va_A (wSB K h0 a0 o0) sz) := by
  refine cf_ofW (y := yAS_putStringAt) (As := [.ref h0, .int v1, .ref (K 109)]) (WS := wSB K h0 a0 o0) (maxL := 3) (fun A => (va_Qv (fun (_ : Unit) => True) (fun (_ : Unit) t => cf_At D A (wSB K h0 a0 r) t) A)) (by decide) (Nat.le_of_ble_eq_true rfl) ?_
  intro p e s m below meth c A ls En hsz hA hP hD hE hS hl
  have C : (dc_C p s m (([.ref h0, .int v1, .ref (K 109)] : List Value).toArray) meth c cAS_putStringAt 3 (Option.none : Option Jvm.ClassFile.FieldType) yAS_putStringAt ∧ cf_E D K A s s.heap ∧ ∀ q, s.heap.size ≤ q → A q) := ⟨En, hE, hA⟩
  exact bAS_putStringAt_S9_0 C v1 o0 r h hP hD hS hl
set_option maxRecDepth 100000 in
theorem nAS_appendS_S9_33 (v2 : Int32) (o0 : cf_O) (r : cf_O) (h : fAS_appendS_S9_33 v2 o0 = some r) : phSB o0 ≤ phSB r := by
  have hm : phSB o0 ≤ phSB o0 := Nat.le_refl _
  obtain ⟨x_1, ex_1, h⟩ := op_kx h
  obtain ⟨o_2, eo_2, h⟩ := op_kx h
  have hm : phSB o0 ≤ phSB o_2 := by rw [eo_2]; exact hm
  obtain rfl := Option.some.inj h
  exact hm
set_option maxRecDepth 100000 in
theorem nAS_appendS_S9_24 (v2 : Int32) (o0 : cf_O) (r : cf_O) (h : fAS_appendS_S9_24 v2 o0 = some r) : phSB o0 ≤ phSB r := by
  have hm : phSB o0 ≤ phSB o0 := Nat.le_refl _
  obtain ⟨q_1, hq_1, h⟩ := op_b h
  have hm : phSB o0 ≤ phSB q_1 := Nat.le_trans hm (nAS_putStringAt_S9 _ _ _ hq_1)
  exact Nat.le_trans hm (nAS_appendS_S9_33 _ _ _ h)
set_option maxRecDepth 100000 in
theorem nAS_appendS_S9_13 (s0 : Int32) (o0 : cf_O) (r : cf_O) (h : fAS_appendS_S9_13 s0 o0 = some r) : phSB o0 ≤ phSB r := by
  have hm : phSB o0 ≤ phSB o0 := Nat.le_refl _
  obtain ⟨x_1, ex_1, h⟩ := op_kx h
  obtain ⟨q_2, hq_2, h⟩ := op_b h
  have hm : phSB o0 ≤ phSB q_2 := Nat.le_trans hm (nAS_ensureCapacityInternal _ _ _ hq_2)
  exact Nat.le_trans hm (nAS_appendS_S9_24 _ _ _ h)
set_option maxRecDepth 100000 in
theorem nAS_appendS_S9_0 (o0 : cf_O) (r : cf_O) (h : fAS_appendS_S9_0 o0 = some r) : phSB o0 ≤ phSB r := by
  have hm : phSB o0 ≤ phSB o0 := Nat.le_refl _
  obtain ⟨q_1, hq_1, h⟩ := op_b h
  exact Nat.le_trans hm (nAS_appendS_S9_13 _ _ _ h)
theorem nAS_appendS_S9 (o0 : cf_O) (r : cf_O) (h : fAS_appendS_S9 o0 = some r) : phSB o0 ≤ phSB r := nAS_appendS_S9_0  o0 r h
set_option maxHeartbeats 4000000 in
set_option maxRecDepth 100000 in
theorem bAS_appendS_S9_33 {p : Program} {l : Launch} {e : Env} {s : State} {m : MethodId} {below : List Frame} {meth : Method} {c : Code} {A : Nat → Prop} {D : va_G} {K : Nat → ClassId} {h0 : Nat} {os : cf_O} {AR : Array Value} (C : (dc_C p s m AR meth c cAS_appendS 3 (Option.some (Jvm.ClassFile.FieldType.object "java/lang/AbstractStringBuilder")) yAS_appendS ∧ cf_E D K A s s.heap ∧ ∀ q, s.heap.size ≤ q → A q)) (v2 : Int32) (o0 : cf_O) (r : cf_O) (h : fAS_appendS_S9_33 v2 o0 = some r) {a0 : Nat → Nat} {H : Heap} {locs : List Loc} {ls : Array Slot} (hg : phSB os ≤ phSB o0) (hP : va_P D vwCl (wSB K h0 a0 o0) H) (hD : va_D A (wSB K h0 a0 o0)) (hS : va_S A s.heap H locs) (hl : lv_has ls 3 [(0, .ref h0), (2, .int v2)]) : W p l e ({ frames := 4, cells := (gC (phSB os) (phSB r)), slots := (gS (phSB os) (phSB r)), locals := 124 }) s m AR below meth c H locs (gC (phSB os) (phSB o0)) (gS (phSB os) (phSB o0)) (MQ below (va_Qr (fun (_ : Nat → Nat) => True) (fun (u : Nat → Nat) q t => cf_At D A (wSB K h0 u r) t ∧ q = h0) A) AR s (gC (phSB os) (phSB r)) (gS (phSB os) (phSB r)) A) (F0 m 33 ls []) := by
  obtain ⟨⟨hx, hb, hr, hts, hown, hlocks, hin, hml⟩, hE, hA⟩ := id C
  have hK := hE.k
  refine lv_aload_n hx hb dAS_appendS_33 rfl (lv_at hl 0 rfl) ?_
  refine lv_dup hx hb dAS_appendS_34 rfl ?_
  refine va_get (D := D) (ci := 13) (v := .int (o0.1 3)) (C := RSB) (T := TSB) (N := 4) hx hb hts inSB hown hK hP 0 rfl rfl 3 (by decide) (hts _ wv_457) (fun _ h9 => h9) rfl dAS_appendS_35 ?_
  refine lv_iload_n hx hb dAS_appendS_38 rfl (lv_at hl 1 rfl) ?_
  refine lv_iadd hx hb dAS_appendS_39 ?_
  refine lv_topi (fun x_1 ex_1 => ?_)
  have h := op_ks ex_1 h
  refine va_put (D := D) (ci := 13) (v := .int x_1) (ty := .int) (C := RSB) (T := TSB) (N := 4) hx hb hts inSB tySB tyokSB nmSB hown hK hP hD hS 0 rfl rfl 3 (by decide) (hts _ wv_457) (fun _ h9 => h9) rfl (by decide +kernel) rfl rfl (Nat.le_of_ble_eq_true rfl) dAS_appendS_40 (fun H locs hP hD hS => ?_)
  have hP : va_P D vwCl (wSB K h0 a0 (fp o0 3 x_1)) H := hP
  have hD : va_D A (wSB K h0 a0 (fp o0 3 x_1)) := hD
  obtain ⟨o_2, eo_2, h⟩ := op_kx h
  rw [← eo_2] at hP hD
  have hf_3 : phSB o_2 = phSB o0 := by rw [eo_2]; rfl
  refine W.widen (k := (gC (phSB os) (phSB o_2))) (n := (gS (phSB os) (phSB o_2))) (by rw [hf_3]; exact Nat.le_refl _) (by rw [hf_3]; exact Nat.le_refl _) ?_
  have hg : phSB os ≤ phSB o_2 := by rw [hf_3]; exact hg
  refine lv_aload_n hx hb dAS_appendS_43 rfl (lv_at hl 0 rfl) ?_
  obtain rfl := Option.some.inj h
  exact dc_aretG a0 hx hb hr ⟨_, rfl⟩ hlocks hP hD hS dAS_appendS_44
set_option maxHeartbeats 4000000 in
set_option maxRecDepth 100000 in
theorem bAS_appendS_S9_24 {p : Program} {l : Launch} {e : Env} {s : State} {m : MethodId} {below : List Frame} {meth : Method} {c : Code} {A : Nat → Prop} {D : va_G} {K : Nat → ClassId} {h0 : Nat} {os : cf_O} {AR : Array Value} (C : (dc_C p s m AR meth c cAS_appendS 3 (Option.some (Jvm.ClassFile.FieldType.object "java/lang/AbstractStringBuilder")) yAS_appendS ∧ cf_E D K A s s.heap ∧ ∀ q, s.heap.size ≤ q → A q)) (v2 : Int32) (o0 : cf_O) (r : cf_O) (h : fAS_appendS_S9_24 v2 o0 = some r) {a0 : Nat → Nat} {H : Heap} {locs : List Loc} {ls : Array Slot} (hg : phSB os ≤ phSB o0) (hP : va_P D vwCl (wSB K h0 a0 o0) H) (hD : va_D A (wSB K h0 a0 o0)) (hS : va_S A s.heap H locs) (hl : lv_has ls 3 [(0, .ref h0), (1, .ref (K 109)), (2, .int v2)]) : W p l e ({ frames := 4, cells := (gC (phSB os) (phSB r)), slots := (gS (phSB os) (phSB r)), locals := 124 }) s m AR below meth c H locs (gC (phSB os) (phSB o0)) (gS (phSB os) (phSB o0)) (MQ below (va_Qr (fun (_ : Nat → Nat) => True) (fun (u : Nat → Nat) q t => cf_At D A (wSB K h0 u r) t ∧ q = h0) A) AR s (gC (phSB os) (phSB r)) (gS (phSB os) (phSB r)) A) (F0 m 24 ls []) := by
  obtain ⟨⟨hx, hb, hr, hts, hown, hlocks, hin, hml⟩, hE, hA⟩ := id C
  have hK := hE.k
  refine lv_aload_n hx hb dAS_appendS_24 rfl (lv_at hl 0 rfl) ?_
  refine lv_aload_n hx hb dAS_appendS_25 rfl (lv_at hl 0 rfl) ?_
  refine va_get (D := D) (ci := 13) (v := .int (o0.1 3)) (C := RSB) (T := TSB) (N := 4) hx hb hts inSB hown hK hP 0 rfl rfl 3 (by decide) (hts _ wv_457) (fun _ h9 => h9) rfl dAS_appendS_26 ?_
  refine lv_aload_n hx hb dAS_appendS_29 rfl (lv_at hl 1 rfl) ?_
  obtain ⟨q_1, hq_1, h⟩ := op_b h
  have hgr_2 : phSB q_1 ≤ phSB r := nAS_appendS_S9_33 _ _ _ h
  have hg2_3 : phSB o0 ≤ phSB q_1 := nAS_putStringAt_S9 _ _ _ hq_1
  refine dc_callv (va_runU (As := [.int (o0.1 3), .ref (K 109)]) (rest := []) ⟨hx, hb, hml, hown, hts⟩ (mAS_putStringAt_S9 l D K _ (o0.1 3) h0 a0 o0 _ hq_1) (cf_cwU (C := "java/lang/StringBuilder") 2 hts (cf_G1 wv_1614) rfl rfl rfl (hts _ wv_166) (hts _ wv_1611) (hts _ wv_2792) (va_Nw.use rfl (hE.n 31 rfl)) (hts _ wv_1613) (by decide +kernel) ⟨Nat.le_of_ble_eq_true rfl, Nat.le_of_ble_eq_true rfl⟩) (dc_preV hE hP hD hS hA rfl 0 rfl) rfl rfl hl.1 rfl (lv_room (Nat.le_of_ble_eq_true rfl)) dAS_appendS_30 ⟨gC_le (Nat.le_trans hg2_3 hgr_2), gS_le (Nat.le_trans hg2_3 hgr_2)⟩) hP hD hS hA (fun H locs hP hD hS => ?_)
  refine W.widen (k := (gC (phSB os) (phSB q_1))) (n := (gS (phSB os) (phSB q_1))) (gC_le hg2_3) (gS_le hg2_3) ?_
  have hg : phSB os ≤ phSB q_1 := Nat.le_trans hg hg2_3
  exact bAS_appendS_S9_33 C _ _ _ h hg hP hD hS (lv_sub hl [0, 2] rfl)
set_option maxHeartbeats 4000000 in
set_option maxRecDepth 100000 in
theorem bAS_appendS_S9_13 {p : Program} {l : Launch} {e : Env} {s : State} {m : MethodId} {below : List Frame} {meth : Method} {c : Code} {A : Nat → Prop} {D : va_G} {K : Nat → ClassId} {h0 : Nat} {os : cf_O} {AR : Array Value} (C : (dc_C p s m AR meth c cAS_appendS 3 (Option.some (Jvm.ClassFile.FieldType.object "java/lang/AbstractStringBuilder")) yAS_appendS ∧ cf_E D K A s s.heap ∧ ∀ q, s.heap.size ≤ q → A q)) (s0 : Int32) (o0 : cf_O) (r : cf_O) (h : fAS_appendS_S9_13 s0 o0 = some r) {a0 : Nat → Nat} {H : Heap} {locs : List Loc} {ls : Array Slot} (hg : phSB os ≤ phSB o0) (hP : va_P D vwCl (wSB K h0 a0 o0) H) (hD : va_D A (wSB K h0 a0 o0)) (hS : va_S A s.heap H locs) (hl : lv_has ls 3 [(0, .ref h0), (1, .ref (K 109))]) : W p l e ({ frames := 4, cells := (gC (phSB os) (phSB r)), slots := (gS (phSB os) (phSB r)), locals := 124 }) s m AR below meth c H locs (gC (phSB os) (phSB o0)) (gS (phSB os) (phSB o0)) (MQ below (va_Qr (fun (_ : Nat → Nat) => True) (fun (u : Nat → Nat) q t => cf_At D A (wSB K h0 u r) t ∧ q = h0) A) AR s (gC (phSB os) (phSB r)) (gS (phSB os) (phSB r)) A) (F0 m 13 ls [.int s0]) := by
  obtain ⟨⟨hx, hb, hr, hts, hown, hlocks, hin, hml⟩, hE, hA⟩ := id C
  have hK := hE.k
  refine lv_istore_n (lv' := [(2, .int s0), (0, .ref h0), (1, .ref (K 109))]) hx hb dAS_appendS_13 rfl hl (by decide) rfl (fun ls hl => ?_)
  refine lv_aload_n hx hb dAS_appendS_14 rfl (lv_at hl 1 rfl) ?_
  refine lv_aload_n hx hb dAS_appendS_15 rfl (lv_at hl 1 rfl) ?_
  refine va_get (D := D) (ci := 13) (v := .int (o0.1 3)) (C := RSB) (T := TSB) (N := 4) hx hb hts inSB hown hK hP 0 rfl rfl 3 (by decide) (hts _ wv_457) (fun _ h9 => h9) rfl dAS_appendS_16 ?_
  refine lv_iload_n hx hb dAS_appendS_19 rfl (lv_at hl 0 rfl) ?_
  refine lv_iadd hx hb dAS_appendS_20 ?_
  refine lv_topi (fun x_1 ex_1 => ?_)
  have h := op_ks ex_1 h
  obtain ⟨q_2, hq_2, h⟩ := op_b h
  have hgr_3 : phSB q_2 ≤ phSB r := nAS_appendS_S9_24 _ _ _ h
  have hg2_4 : phSB o0 ≤ phSB q_2 := nAS_ensureCapacityInternal _ _ _ hq_2
  refine cf_callv (wc := wSB K h0 a0 o0) (wr := []) (va_runU (As := [.int x_1]) (rest := []) ⟨hx, hb, hml, hown, hts⟩ (mAS_ensureCapacityInternal l D K _ x_1 h0 a0 o0 _ hq_2) (cf_cwU (C := "java/lang/StringBuilder") 1 hts (cf_G1 wv_1568) rfl rfl rfl (hts _ wv_166) (hts _ wv_1565) (hts _ wv_2790) (va_Nw.use rfl (hE.n 29 rfl)) (hts _ wv_1567) (by decide +kernel) ⟨Nat.le_of_ble_eq_true rfl, Nat.le_of_ble_eq_true rfl⟩) (cf_preV (wc := wSB K h0 a0 o0) hE hP hD hS hA rfl 0 rfl [0, 1] rfl (by decide +kernel)) rfl rfl hl.1 rfl (lv_room (Nat.le_of_ble_eq_true rfl)) dAS_appendS_21 ⟨Nat.le_trans (gC_add hg hg2_4) (gC_le hgr_3), Nat.le_trans (gS_add hg hg2_4) (gS_le hgr_3)⟩) hP hD hS hA [0, 1] [] rfl rfl (by decide +kernel) (by decide +kernel) (fun a0_6 H locs hw_5 hP hD hS => ?_)
  have hP : va_P D vwCl (wSB K h0 a0_6 q_2) H := hP.sub [0, 1] rfl
  have hD : va_D A (wSB K h0 a0_6 q_2) := hD.sub [0, 1] (by decide +kernel) rfl
  refine W.widen (k := (gC (phSB os) (phSB q_2))) (n := (gS (phSB os) (phSB q_2))) (gC_add hg hg2_4) (gS_add hg hg2_4) ?_
  have hg : phSB os ≤ phSB q_2 := Nat.le_trans hg hg2_4
  exact bAS_appendS_S9_24 C _ _ _ h hg hP hD hS (lv_sub hl [1, 2, 0] rfl)
set_option maxHeartbeats 4000000 in
set_option maxRecDepth 100000 in
theorem bAS_appendS_S9_0 {p : Program} {l : Launch} {e : Env} {s : State} {m : MethodId} {below : List Frame} {meth : Method} {c : Code} {A : Nat → Prop} {D : va_G} {K : Nat → ClassId} {h0 : Nat} {os : cf_O} {AR : Array Value} (C : (dc_C p s m AR meth c cAS_appendS 3 (Option.some (Jvm.ClassFile.FieldType.object "java/lang/AbstractStringBuilder")) yAS_appendS ∧ cf_E D K A s s.heap ∧ ∀ q, s.heap.size ≤ q → A q)) (o0 : cf_O) (r : cf_O) (h : fAS_appendS_S9_0 o0 = some r) {a0 : Nat → Nat} {H : Heap} {locs : List Loc} {ls : Array Slot} (hg : phSB os ≤ phSB o0) (hP : va_P D vwCl (wSB K h0 a0 o0) H) (hD : va_D A (wSB K h0 a0 o0)) (hS : va_S A s.heap H locs) (hl : lv_has ls 3 [(0, .ref h0), (1, .ref (K 109))]) : W p l e ({ frames := 4, cells := (gC (phSB os) (phSB r)), slots := (gS (phSB os) (phSB r)), locals := 124 }) s m AR below meth c H locs (gC (phSB os) (phSB o0)) (gS (phSB os) (phSB o0)) (MQ below (va_Qr (fun (_ : Nat → Nat) => True) (fun (u : Nat → Nat) q t => cf_At D A (wSB K h0 u r) t ∧ q = h0) A) AR s (gC (phSB os) (phSB r)) (gS (phSB os) (phSB r)) A) (F0 m 0 ls []) := by
  obtain ⟨⟨hx, hb, hr, hts, hown, hlocks, hin, hml⟩, hE, hA⟩ := id C
  have hK := hE.k
  refine lv_aload_n hx hb dAS_appendS_0 rfl (lv_at hl 1 rfl) ?_
  refine lv_ifnonnull (tgt := 9) hx hb dAS_appendS_1 (by decide) ?_
  refine lv_aload_n hx hb dAS_appendS_9 rfl (lv_at hl 1 rfl) ?_
  obtain ⟨q_1, hq_1, h⟩ := op_b h
  have hgr_2 : phSB o0 ≤ phSB r := nAS_appendS_S9_13 _ _ _ h
  refine cf_calli (wc := []) (wr := wSB K h0 a0 o0) (va_runV (As := []) (rest := []) ⟨hx, hb, hml, hown, hts⟩ (mJString_length__S9 l D K _ _ hq_1) (cwV 0 hts (cf_GV wv_1610 wv_757 wv_758 wv_168 wv_759) rfl rfl rfl (by decide +kernel) ⟨Nat.le_of_ble_eq_true rfl, Nat.le_of_ble_eq_true rfl⟩) (cf_preO (wc := []) (hE.s 9 rfl).2.1 hE hP hD hS hA [] rfl (by decide +kernel)) rfl rfl hl.1 rfl (lv_room (Nat.le_of_ble_eq_true rfl)) dAS_appendS_10 ⟨gC_le hgr_2, gS_le hgr_2⟩) hP hD hS hA [] [0, 1] rfl rfl (by decide +kernel) (by decide +kernel) (fun r_4 _ H locs hw_5 hP hD hS => ?_)
  subst r_4
  have hP : va_P D vwCl (wSB K h0 a0 o0) H := hP.sub [0, 1] rfl
  have hD : va_D A (wSB K h0 a0 o0) := hD.sub [0, 1] (by decide +kernel) rfl
  refine W.widen (k := (gC (phSB os) (phSB o0))) (n := (gS (phSB os) (phSB o0))) (Nat.le_refl _) (Nat.le_refl _) ?_
  exact bAS_appendS_S9_13 C _ _ _ h hg hP hD hS (lv_sub hl [0, 1] rfl)
set_option maxRecDepth 100000 in
theorem mAS_appendS_S9 (l : Launch) (D : va_G) (K : Nat → ClassId) (sz : Nat) (h0 : Nat) (a0 : Nat → Nat) (o0 : cf_O) (r : cf_O) (h : fAS_appendS_S9 o0 = some r) : Met l yAS_appendS (Cond.code yAS_appendS cAS_appendS 3 (Option.some (Jvm.ClassFile.FieldType.object "java/lang/AbstractStringBuilder")) :: cfB) ({ frames := 4, cells := (gC (phSB o0) (phSB r)), slots := (gS (phSB o0) (phSB r)), locals := 124 }) (va_Pc [.ref h0, .ref (K 109)] (cf_Pre D K sz (wSB K h0 a0 o0))) (va_Qr (fun (_ : Nat → Nat) => True) (fun (u : Nat → Nat) q t => cf_At D (va_A (wSB K h0 a0 o0) sz) (wSB K h0 u r) t ∧ q = h0) (va_A (wSB K h0 a0 o0) sz)) (gC (phSB o0) (phSB r)) (gS (phSB o0) (phSB r)) (va_A (wSB K h0 a0 o0) sz) := by
  refine cf_ofW (y := yAS_appendS) (As := [.ref h0, .ref (K 109)]) (WS := wSB K h0 a0 o0) (maxL := 3) (fun A => (va_Qr (fun (_ : Nat → Nat) => True) (fun (u : Nat → Nat) q t => cf_At D A (wSB K h0 u r) t ∧ q = h0) A)) (by decide) (Nat.le_of_ble_eq_true rfl) ?_
  intro p e s m below meth c A ls En hsz hA hP hD hE hS hl
  have C : (dc_C p s m (([.ref h0, .ref (K 109)] : List Value).toArray) meth c cAS_appendS 3 (Option.some (Jvm.ClassFile.FieldType.object "java/lang/AbstractStringBuilder")) yAS_appendS ∧ cf_E D K A s s.heap ∧ ∀ q, s.heap.size ≤ q → A q) := ⟨En, hE, hA⟩
  refine W.widen (k := gC (phSB o0) (phSB o0)) (n := gS (phSB o0) (phSB o0)) (Nat.zero_le _) (Nat.zero_le _) ?_
  exact bAS_appendS_S9_0 C o0 r h (Nat.le_refl _) hP hD hS hl
set_option maxRecDepth 100000 in
theorem nSB_appendS_S9_5 (o0 : cf_O) (r : cf_O) (h : fSB_appendS_S9_5 o0 = some r) : phSB o0 ≤ phSB r := by
  have hm : phSB o0 ≤ phSB o0 := Nat.le_refl _
  obtain rfl := Option.some.inj h
  exact hm
set_option maxRecDepth 100000 in
theorem nSB_appendS_S9_0 (o0 : cf_O) (r : cf_O) (h : fSB_appendS_S9_0 o0 = some r) : phSB o0 ≤ phSB r := by
  have hm : phSB o0 ≤ phSB o0 := Nat.le_refl _
  obtain ⟨q_1, hq_1, h⟩ := op_b h
  have hm : phSB o0 ≤ phSB q_1 := Nat.le_trans hm (nAS_appendS_S9 _ _ hq_1)
  exact Nat.le_trans hm (nSB_appendS_S9_5 _ _ h)
theorem nSB_appendS_S9 (o0 : cf_O) (r : cf_O) (h : fSB_appendS_S9 o0 = some r) : phSB o0 ≤ phSB r := nSB_appendS_S9_0  o0 r h
set_option maxHeartbeats 4000000 in
set_option maxRecDepth 100000 in
theorem bSB_appendS_S9_5 {p : Program} {l : Launch} {e : Env} {s : State} {m : MethodId} {below : List Frame} {meth : Method} {c : Code} {A : Nat → Prop} {D : va_G} {K : Nat → ClassId} {h0 : Nat} {os : cf_O} {AR : Array Value} (C : (dc_C p s m AR meth c cSB_appendS 2 (Option.some (Jvm.ClassFile.FieldType.object "java/lang/StringBuilder")) ySB_appendS ∧ cf_E D K A s s.heap ∧ ∀ q, s.heap.size ≤ q → A q)) (o0 : cf_O) (r : cf_O) (h : fSB_appendS_S9_5 o0 = some r) {a0 : Nat → Nat} {H : Heap} {locs : List Loc} {ls : Array Slot} (hg : phSB os ≤ phSB o0) (hP : va_P D vwCl (wSB K h0 a0 o0) H) (hD : va_D A (wSB K h0 a0 o0)) (hS : va_S A s.heap H locs) (hl : lv_has ls 2 [(0, .ref h0)]) : W p l e ({ frames := 5, cells := (gC (phSB os) (phSB r)), slots := (gS (phSB os) (phSB r)), locals := 146 }) s m AR below meth c H locs (gC (phSB os) (phSB o0)) (gS (phSB os) (phSB o0)) (MQ below (va_Qr (fun (_ : Nat → Nat) => True) (fun (u : Nat → Nat) q t => cf_At D A (wSB K h0 u r) t ∧ q = h0) A) AR s (gC (phSB os) (phSB r)) (gS (phSB os) (phSB r)) A) (F0 m 5 ls [.ref h0]) := by
  obtain ⟨⟨hx, hb, hr, hts, hown, hlocks, hin, hml⟩, hE, hA⟩ := id C
  have hK := hE.k
  refine lv_pop hx hb dSB_appendS_5 rfl ?_
  refine lv_aload_n hx hb dSB_appendS_6 rfl (lv_at hl 0 rfl) ?_
  obtain rfl := Option.some.inj h
  exact dc_aretG a0 hx hb hr ⟨_, rfl⟩ hlocks hP hD hS dSB_appendS_7
set_option maxHeartbeats 4000000 in
set_option maxRecDepth 100000 in
theorem bSB_appendS_S9_0 {p : Program} {l : Launch} {e : Env} {s : State} {m : MethodId} {below : List Frame} {meth : Method} {c : Code} {A : Nat → Prop} {D : va_G} {K : Nat → ClassId} {h0 : Nat} {os : cf_O} {AR : Array Value} (C : (dc_C p s m AR meth c cSB_appendS 2 (Option.some (Jvm.ClassFile.FieldType.object "java/lang/StringBuilder")) ySB_appendS ∧ cf_E D K A s s.heap ∧ ∀ q, s.heap.size ≤ q → A q)) (o0 : cf_O) (r : cf_O) (h : fSB_appendS_S9_0 o0 = some r) {a0 : Nat → Nat} {H : Heap} {locs : List Loc} {ls : Array Slot} (hg : phSB os ≤ phSB o0) (hP : va_P D vwCl (wSB K h0 a0 o0) H) (hD : va_D A (wSB K h0 a0 o0)) (hS : va_S A s.heap H locs) (hl : lv_has ls 2 [(0, .ref h0), (1, .ref (K 109))]) : W p l e ({ frames := 5, cells := (gC (phSB os) (phSB r)), slots := (gS (phSB os) (phSB r)), locals := 146 }) s m AR below meth c H locs (gC (phSB os) (phSB o0)) (gS (phSB os) (phSB o0)) (MQ below (va_Qr (fun (_ : Nat → Nat) => True) (fun (u : Nat → Nat) q t => cf_At D A (wSB K h0 u r) t ∧ q = h0) A) AR s (gC (phSB os) (phSB r)) (gS (phSB os) (phSB r)) A) (F0 m 0 ls []) := by
  obtain ⟨⟨hx, hb, hr, hts, hown, hlocks, hin, hml⟩, hE, hA⟩ := id C
  have hK := hE.k
  refine lv_aload_n hx hb dSB_appendS_0 rfl (lv_at hl 0 rfl) ?_
  refine lv_aload_n hx hb dSB_appendS_1 rfl (lv_at hl 1 rfl) ?_
  obtain ⟨q_1, hq_1, h⟩ := op_b h
  have hgr_2 : phSB q_1 ≤ phSB r := nSB_appendS_S9_5 _ _ h
  have hg2_3 : phSB o0 ≤ phSB q_1 := nAS_appendS_S9 _ _ hq_1
  refine cf_callR (wc := wSB K h0 a0 o0) (wr := []) (va_runSU (hK.1 13 _ rfl).2 (As := [.ref (K 109)]) (rest := []) ⟨hx, hb, hml, hown, hts⟩ (mAS_appendS_S9 l D K _ h0 a0 o0 _ hq_1) (cf_cwSU 1 hts (cf_G1 wv_1560) rfl rfl rfl (hts _ wv_1558) (hts _ wv_2788) (hts _ wv_466) (hts _ wv_1559) (hts _ wv_166) (by decide +kernel) ⟨Nat.le_of_ble_eq_true rfl, Nat.le_of_ble_eq_true rfl⟩) (cf_preV (wc := wSB K h0 a0 o0) hE hP hD hS hA rfl 0 rfl [0, 1] rfl (by decide +kernel)) rfl rfl hl.1 rfl (lv_room (Nat.le_of_ble_eq_true rfl)) dSB_appendS_2 ⟨Nat.le_trans (gC_add hg hg2_3) (gC_le hgr_2), Nat.le_trans (gS_add hg hg2_3) (gS_le hgr_2)⟩) hP hD hS hA [0, 1] [] rfl rfl (by decide +kernel) (by decide +kernel) (fun a0_5 H locs hw_4 hP hD hS => ?_)
  have hP : va_P D vwCl (wSB K h0 a0_5 q_1) H := hP.sub [0, 1] rfl
  have hD : va_D A (wSB K h0 a0_5 q_1) := hD.sub [0, 1] (by decide +kernel) rfl
  refine W.widen (k := (gC (phSB os) (phSB q_1))) (n := (gS (phSB os) (phSB q_1))) (gC_add hg hg2_3) (gS_add hg hg2_3) ?_
  have hg : phSB os ≤ phSB q_1 := Nat.le_trans hg hg2_3
  exact bSB_appendS_S9_5 C _ _ h hg hP hD hS (lv_sub hl [0] rfl)
set_option maxRecDepth 100000 in
theorem mSB_appendS_S9 (l : Launch) (D : va_G) (K : Nat → ClassId) (sz : Nat) (h0 : Nat) (a0 : Nat → Nat) (o0 : cf_O) (r : cf_O) (h : fSB_appendS_S9 o0 = some r) : Met l ySB_appendS (Cond.code ySB_appendS cSB_appendS 2 (Option.some (Jvm.ClassFile.FieldType.object "java/lang/StringBuilder")) :: cfB) ({ frames := 5, cells := (gC (phSB o0) (phSB r)), slots := (gS (phSB o0) (phSB r)), locals := 146 }) (va_Pc [.ref h0, .ref (K 109)] (cf_Pre D K sz (wSB K h0 a0 o0))) (va_Qr (fun (_ : Nat → Nat) => True) (fun (u : Nat → Nat) q t => cf_At D (va_A (wSB K h0 a0 o0) sz) (wSB K h0 u r) t ∧ q = h0) (va_A (wSB K h0 a0 o0) sz)) (gC (phSB o0) (phSB r)) (gS (phSB o0) (phSB r)) (va_A (wSB K h0 a0 o0) sz) := by
  refine cf_ofW (y := ySB_appendS) (As := [.ref h0, .ref (K 109)]) (WS := wSB K h0 a0 o0) (maxL := 2) (fun A => (va_Qr (fun (_ : Nat → Nat) => True) (fun (u : Nat → Nat) q t => cf_At D A (wSB K h0 u r) t ∧ q = h0) A)) (by decide) (Nat.le_of_ble_eq_true rfl) ?_
  intro p e s m below meth c A ls En hsz hA hP hD hE hS hl
  have C : (dc_C p s m (([.ref h0, .ref (K 109)] : List Value).toArray) meth c cSB_appendS 2 (Option.some (Jvm.ClassFile.FieldType.object "java/lang/StringBuilder")) ySB_appendS ∧ cf_E D K A s s.heap ∧ ∀ q, s.heap.size ≤ q → A q) := ⟨En, hE, hA⟩
  refine W.widen (k := gC (phSB o0) (phSB o0)) (n := gS (phSB o0) (phSB o0)) (Nat.zero_le _) (Nat.zero_le _) ?_
  exact bSB_appendS_S9_0 C o0 r h (Nat.le_refl _) hP hD hS hl
def IhJInteger_stringSize_I (p : Program) (l : Launch) (e : Env) (s : State) (m : MethodId) (below : List Frame) (meth : Method) (c : Code) (AR : Array Value) (n : Nat) : Prop := (∀ (v0 : Int32) (v1 : Int32) (v2 : Int32) (v3 : Int32) (r : Int32), gJInteger_stringSize_I n 0 v0 v1 v2 v3 = some r → ∀ {ls : Array Slot}, lv_has ls 4 [(0, .int v0), (1, .int v1), (2, .int v2), (3, .int v3)] → W p l e ({ frames := 0, cells := 0, slots := 0, locals := 0 }) s m AR below meth c s.heap [] 0 0 (MQ below (cf_Pi (fun x => x = r)) AR s 0 0 (fun _ => False)) (F0 m 16 ls []))
set_option maxHeartbeats 4000000 in
set_option maxRecDepth 100000 in
theorem bJInteger_stringSize_I_16 {p : Program} {l : Launch} {e : Env} {s : State} {m : MethodId} {below : List Frame} {meth : Method} {c : Code} {AR : Array Value} (C : dc_C p s m AR meth c cJInteger_stringSize_I 4 (Option.some Jvm.ClassFile.FieldType.int) yJInteger_stringSize_I) {n : Nat} (ih : IhJInteger_stringSize_I p l e s m below meth c AR n) (v0 : Int32) (v1 : Int32) (v2 : Int32) (v3 : Int32) (r : Int32) (h : fJInteger_stringSize_I_16 (gJInteger_stringSize_I n) v0 v1 v2 v3 = some r) {ls : Array Slot} (hl : lv_has ls 4 [(0, .int v0), (1, .int v1), (2, .int v2), (3, .int v3)]) : W p l e ({ frames := 0, cells := 0, slots := 0, locals := 0 }) s m AR below meth c s.heap [] 0 0 (MQ below (cf_Pi (fun x => x = r)) AR s 0 0 (fun _ => False)) (F0 m 16 ls []) := by
  obtain ⟨hx, hb, hr, hts, hown, hlocks, hin, hml⟩ := id C
  refine lv_iload_n hx hb dJInteger_stringSize_I_16 rfl (lv_at hl 3 rfl) ?_
  refine lv_bipush (v := 10) hx hb dJInteger_stringSize_I_17 (by decide) ?_
  refine lv_icmp_ge (tgt := 42) hx hb dJInteger_stringSize_I_19 (by decide) (fun c_1 => ?_) (fun c_1 => ?_)
  · have h := op_t c_1 h
    refine lv_bipush (v := 10) hx hb dJInteger_stringSize_I_42 (by decide) ?_
    refine lv_iload_n hx hb dJInteger_stringSize_I_44 rfl (lv_at hl 1 rfl) ?_
    refine lv_iadd hx hb dJInteger_stringSize_I_45 ?_
    refine lv_topi (fun x_2 ex_2 => ?_)
    have h := op_ks ex_2 h
    obtain rfl := Option.some.inj h
    exact W.iret hx hb hr (fun t ht hW => ⟨_, rfl, rfl, ht⟩) cf_pnil dJInteger_stringSize_I_46 hlocks
  · have h := op_f c_1 h
    refine lv_iload_n hx hb dJInteger_stringSize_I_22 rfl (lv_at hl 0 rfl) ?_
    refine lv_iload_n hx hb dJInteger_stringSize_I_23 rfl (lv_at hl 2 rfl) ?_
    refine lv_icmp_le (tgt := 31) hx hb dJInteger_stringSize_I_24 (by decide) (fun c_3 => ?_) (fun c_3 => ?_)
    · have h := op_t c_3 h
      refine lv_bipush (v := 10) hx hb dJInteger_stringSize_I_31 (by decide) ?_
      refine lv_iload_n hx hb dJInteger_stringSize_I_33 rfl (lv_at hl 2 rfl) ?_
      refine lv_imul hx hb dJInteger_stringSize_I_34 ?_
      refine lv_topi (fun x_4 ex_4 => ?_)
      have h := op_ks ex_4 h
      refine lv_istore_n (lv' := [(2, .int x_4), (0, .int v0), (1, .int v1), (3, .int v3)]) hx hb dJInteger_stringSize_I_35 rfl hl (by decide) rfl (fun ls hl => ?_)
      obtain ⟨x_5, ex_5⟩ : ∃ y : Int32, y = v3 + 1 := ⟨_, rfl⟩
      refine lv_iinc (v := x_5) (lv' := [(3, .int x_5), (2, .int x_4), (0, .int v0), (1, .int v1)]) hx hb dJInteger_stringSize_I_36 hl (k := 3) rfl (by rw [ex_5]; rfl) (by decide) rfl (fun ls hl => ?_)
      have h := op_ks ex_5 h
      refine lv_goto (tgt := 16) hx hb dJInteger_stringSize_I_39 (by decide) ?_
      exact (ih) _ _ _ _ _ h (lv_sub hl [2, 3, 1, 0] rfl)
    · have h := op_f c_3 h
      refine lv_iload_n hx hb dJInteger_stringSize_I_27 rfl (lv_at hl 3 rfl) ?_
      refine lv_iload_n hx hb dJInteger_stringSize_I_28 rfl (lv_at hl 1 rfl) ?_
      refine lv_iadd hx hb dJInteger_stringSize_I_29 ?_
      refine lv_topi (fun x_6 ex_6 => ?_)
      have h := op_ks ex_6 h
      obtain rfl := Option.some.inj h
      exact W.iret hx hb hr (fun t ht hW => ⟨_, rfl, rfl, ht⟩) cf_pnil dJInteger_stringSize_I_30 hlocks
set_option maxHeartbeats 4000000 in
set_option maxRecDepth 100000 in
theorem bJInteger_stringSize_I_11 {p : Program} {l : Launch} {e : Env} {s : State} {m : MethodId} {below : List Frame} {meth : Method} {c : Code} {AR : Array Value} (C : dc_C p s m AR meth c cJInteger_stringSize_I 4 (Option.some Jvm.ClassFile.FieldType.int) yJInteger_stringSize_I) {n : Nat} (ih : IhJInteger_stringSize_I p l e s m below meth c AR n) (v0 : Int32) (v1 : Int32) (r : Int32) (h : fJInteger_stringSize_I_11 (gJInteger_stringSize_I n) v0 v1 = some r) {ls : Array Slot} (hl : lv_has ls 4 [(0, .int v0), (1, .int v1)]) : W p l e ({ frames := 0, cells := 0, slots := 0, locals := 0 }) s m AR below meth c s.heap [] 0 0 (MQ below (cf_Pi (fun x => x = r)) AR s 0 0 (fun _ => False)) (F0 m 11 ls []) := by
  obtain ⟨hx, hb, hr, hts, hown, hlocks, hin, hml⟩ := id C
  refine lv_bipush (v := (-10)) hx hb dJInteger_stringSize_I_11 (by decide) ?_
  refine lv_istore_n (lv' := [(2, .int (-10)), (0, .int v0), (1, .int v1)]) hx hb dJInteger_stringSize_I_13 rfl hl (by decide) rfl (fun ls hl => ?_)
  refine lv_iconst (v := 1) hx hb dJInteger_stringSize_I_14 (by decide) ?_
  refine lv_istore_n (lv' := [(3, .int 1), (2, .int (-10)), (0, .int v0), (1, .int v1)]) hx hb dJInteger_stringSize_I_15 rfl hl (by decide) rfl (fun ls hl => ?_)
  exact (ih) _ _ _ _ _ h (lv_sub hl [2, 3, 1, 0] rfl)
set_option maxHeartbeats 4000000 in
set_option maxRecDepth 100000 in
theorem bJInteger_stringSize_I_0 {p : Program} {l : Launch} {e : Env} {s : State} {m : MethodId} {below : List Frame} {meth : Method} {c : Code} {AR : Array Value} (C : dc_C p s m AR meth c cJInteger_stringSize_I 4 (Option.some Jvm.ClassFile.FieldType.int) yJInteger_stringSize_I) {n : Nat} (ih : IhJInteger_stringSize_I p l e s m below meth c AR n) (v0 : Int32) (r : Int32) (h : fJInteger_stringSize_I_0 (gJInteger_stringSize_I n) v0 = some r) {ls : Array Slot} (hl : lv_has ls 4 [(0, .int v0)]) : W p l e ({ frames := 0, cells := 0, slots := 0, locals := 0 }) s m AR below meth c s.heap [] 0 0 (MQ below (cf_Pi (fun x => x = r)) AR s 0 0 (fun _ => False)) (F0 m 0 ls []) := by
  obtain ⟨hx, hb, hr, hts, hown, hlocks, hin, hml⟩ := id C
  refine lv_iconst (v := 1) hx hb dJInteger_stringSize_I_0 (by decide) ?_
  refine lv_istore_n (lv' := [(1, .int 1), (0, .int v0)]) hx hb dJInteger_stringSize_I_1 rfl hl (by decide) rfl (fun ls hl => ?_)
  refine lv_iload_n hx hb dJInteger_stringSize_I_2 rfl (lv_at hl 1 rfl) ?_
  refine lv_if_lt (tgt := 11) hx hb dJInteger_stringSize_I_3 (by decide) (fun c_1 => ?_) (fun c_1 => ?_)
  · have h := op_t c_1 h
    exact bJInteger_stringSize_I_11 C ih _ _ _ h (lv_sub hl [1, 0] rfl)
  · have h := op_f c_1 h
    refine lv_iconst (v := 0) hx hb dJInteger_stringSize_I_6 (by decide) ?_
    refine lv_istore_n (lv' := [(1, .int 0), (0, .int v0)]) hx hb dJInteger_stringSize_I_7 rfl hl (by decide) rfl (fun ls hl => ?_)
    refine lv_iload_n hx hb dJInteger_stringSize_I_8 rfl (lv_at hl 1 rfl) ?_
    refine lv_ineg hx hb dJInteger_stringSize_I_9 ?_
    refine lv_topi (fun x_2 ex_2 => ?_)
    have h := op_ks ex_2 h
    refine lv_istore_n (lv' := [(0, .int x_2), (1, .int 0)]) hx hb dJInteger_stringSize_I_10 rfl hl (by decide) rfl (fun ls hl => ?_)
    exact bJInteger_stringSize_I_11 C ih _ _ _ h (lv_sub hl [0, 1] rfl)
theorem iJInteger_stringSize_I {p : Program} {l : Launch} {e : Env} {s : State} {m : MethodId} {below : List Frame} {meth : Method} {c : Code} {AR : Array Value} (C : dc_C p s m AR meth c cJInteger_stringSize_I 4 (Option.some Jvm.ClassFile.FieldType.int) yJInteger_stringSize_I) : ∀ n, IhJInteger_stringSize_I p l e s m below meth c AR n := by
  intro n
  induction n with
  | zero => exact (fun _ _ _ _ r h => by cases (show none = some r from h))
  | succ n ih => exact fun x0 x1 x2 x3 r h _ hl => bJInteger_stringSize_I_16 C ih x0 x1 x2 x3 r h hl
theorem mJInteger_stringSize_I (l : Launch) (v0 : Int32) (r : Int32) (h : fJInteger_stringSize_I v0 = some r) : Met l yJInteger_stringSize_I (Cond.code yJInteger_stringSize_I cJInteger_stringSize_I 4 (Option.some Jvm.ClassFile.FieldType.int) :: cfB) ({ frames := 0, cells := 0, slots := 0, locals := 0 }) (fun v _ => v = ([.int v0] : List Value).toArray) (cf_Pi (fun x => x = r)) 0 0 (fun _ => False) := by
  refine cf_ofP (y := yJInteger_stringSize_I) (As := [.int v0]) (maxL := 4) (cf_Pi (fun x => x = r)) (by decide) (Nat.le_of_ble_eq_true rfl) ?_
  intro p e s m below meth c ls C hl
  exact bJInteger_stringSize_I_0 (l := l) C (iJInteger_stringSize_I (l := l) C cfFU) v0 r h hl
def NIJInteger_getChars_IIAB_SB0 (n : Nat) : Prop := (∀ (v0 : Int32) (v5 : Int32) (v6 : Int32) (o0 : cf_O) (r : Int32 × cf_O), gJInteger_getChars_IIAB_SB0 n 0 v0 v5 v6 o0 = some r → phSB o0 ≤ phSB r.2)
set_option maxRecDepth 100000 in
theorem nJInteger_getChars_IIAB_SB0_118 {n : Nat} (ih : NIJInteger_getChars_IIAB_SB0 n) (v5 : Int32) (o0 : cf_O) (r : Int32 × cf_O) (h : fJInteger_getChars_IIAB_SB0_118 (gJInteger_getChars_IIAB_SB0 n) v5 o0 = some r) : phSB o0 ≤ phSB r.2 := by
  have hm : phSB o0 ≤ phSB o0 := Nat.le_refl _
  obtain rfl := Option.some.inj h
  exact hm
set_option maxRecDepth 100000 in
theorem nJInteger_getChars_IIAB_SB0_104 {n : Nat} (ih : NIJInteger_getChars_IIAB_SB0 n) (v5 : Int32) (v6 : Int32) (o0 : cf_O) (r : Int32 × cf_O) (h : fJInteger_getChars_IIAB_SB0_104 (gJInteger_getChars_IIAB_SB0 n) v5 v6 o0 = some r) : phSB o0 ≤ phSB r.2 := by
  have hm : phSB o0 ≤ phSB o0 := Nat.le_refl _
  rcases (Classical.em (v6 = (0 : Int32))) with c_1 | c_1
  · have h := op_t c_1 h
    exact Nat.le_trans hm (nJInteger_getChars_IIAB_SB0_118 ih _ _ _ h)
  · have h := op_f c_1 h
    obtain ⟨x_2, ex_2, h⟩ := op_kx h
    obtain ⟨hi_3, h⟩ := op_n h
    obtain ⟨o_4, eo_4, h⟩ := op_kx h
    have hm : phSB o0 ≤ phSB o_4 := by rw [eo_4]; exact hm
    exact Nat.le_trans hm (nJInteger_getChars_IIAB_SB0_118 ih _ _ _ h)
set_option maxRecDepth 100000 in
theorem nJInteger_getChars_IIAB_SB0_22 {n : Nat} (ih : NIJInteger_getChars_IIAB_SB0 n) (v0 : Int32) (v5 : Int32) (v6 : Int32) (o0 : cf_O) (r : Int32 × cf_O) (h : fJInteger_getChars_IIAB_SB0_22 (gJInteger_getChars_IIAB_SB0 n) v0 v5 v6 o0 = some r) : phSB o0 ≤ phSB r.2 := by
  have hm : phSB o0 ≤ phSB o0 := Nat.le_refl _
  rcases (Classical.em (((-100) : Int32) < v0)) with c_1 | c_1
  · have h := op_t c_1 h
    obtain ⟨x_2, ex_2, h⟩ := op_kx h
    obtain ⟨x_3, ex_3, h⟩ := op_kx h
    obtain ⟨hi_4, h⟩ := op_n h
    obtain ⟨x_5, ex_5, h⟩ := op_kx h
    obtain ⟨hi_6, h⟩ := op_n h
    obtain ⟨o_7, eo_7, h⟩ := op_kx h
    have hm : phSB o0 ≤ phSB o_7 := by rw [eo_7]; exact hm
    rcases (Classical.em (((-9) : Int32) ≤ v0)) with c_8 | c_8
    · have h := op_t c_8 h
      exact Nat.le_trans hm (nJInteger_getChars_IIAB_SB0_104 ih _ _ _ _ h)
    · have h := op_f c_8 h
      obtain ⟨x_9, ex_9, h⟩ := op_kx h
      obtain ⟨x_10, ex_10, h⟩ := op_kx h
      obtain ⟨hi_11, h⟩ := op_n h
      obtain ⟨x_12, ex_12, h⟩ := op_kx h
      obtain ⟨hi_13, h⟩ := op_n h
      obtain ⟨o_14, eo_14, h⟩ := op_kx h
      have hm : phSB o0 ≤ phSB o_14 := by rw [eo_14]; exact hm
      exact Nat.le_trans hm (nJInteger_getChars_IIAB_SB0_104 ih _ _ _ _ h)
  · have h := op_f c_1 h
    obtain ⟨x_15, ex_15, h⟩ := op_kx h
    obtain ⟨x_16, ex_16, h⟩ := op_kx h
    obtain ⟨x_17, ex_17, h⟩ := op_kx h
    obtain ⟨x_18, ex_18, h⟩ := op_kx h
    obtain ⟨hi_19, h⟩ := op_n h
    obtain ⟨x_20, ex_20, h⟩ := op_kx h
    obtain ⟨hi_21, h⟩ := op_n h
    obtain ⟨o_22, eo_22, h⟩ := op_kx h
    have hm : phSB o0 ≤ phSB o_22 := by rw [eo_22]; exact hm
    obtain ⟨x_23, ex_23, h⟩ := op_kx h
    obtain ⟨hi_24, h⟩ := op_n h
    obtain ⟨x_25, ex_25, h⟩ := op_kx h
    obtain ⟨hi_26, h⟩ := op_n h
    obtain ⟨o_27, eo_27, h⟩ := op_kx h
    have hm : phSB o0 ≤ phSB o_27 := by rw [eo_27]; exact hm
    exact Nat.le_trans hm ((ih) _ _ _ _ _ h)
set_option maxRecDepth 100000 in
theorem nJInteger_getChars_IIAB_SB0_12 {n : Nat} (ih : NIJInteger_getChars_IIAB_SB0 n) (v0 : Int32) (v5 : Int32) (s0 : Int32) (o0 : cf_O) (r : Int32 × cf_O) (h : fJInteger_getChars_IIAB_SB0_12 (gJInteger_getChars_IIAB_SB0 n) v0 v5 s0 o0 = some r) : phSB o0 ≤ phSB r.2 := by
  have hm : phSB o0 ≤ phSB o0 := Nat.le_refl _
  rcases (Classical.em (s0 = (0 : Int32))).symm with c_1 | c_1
  · have h := op_f c_1 h
    exact Nat.le_trans hm ((ih) _ _ _ _ _ h)
  · have h := op_t c_1 h
    obtain ⟨x_2, ex_2, h⟩ := op_kx h
    exact Nat.le_trans hm ((ih) _ _ _ _ _ h)
set_option maxRecDepth 100000 in
theorem nJInteger_getChars_IIAB_SB0_0 {n : Nat} (ih : NIJInteger_getChars_IIAB_SB0 n) (v0 : Int32) (v1 : Int32) (o0 : cf_O) (r : Int32 × cf_O) (h : fJInteger_getChars_IIAB_SB0_0 (gJInteger_getChars_IIAB_SB0 n) v0 v1 o0 = some r) : phSB o0 ≤ phSB r.2 := by
  have hm : phSB o0 ≤ phSB o0 := Nat.le_refl _
  rcases (Classical.em ((0 : Int32) ≤ v0)) with c_1 | c_1
  · have h := op_t c_1 h
    exact Nat.le_trans hm (nJInteger_getChars_IIAB_SB0_12 ih _ _ _ _ _ h)
  · have h := op_f c_1 h
    exact Nat.le_trans hm (nJInteger_getChars_IIAB_SB0_12 ih _ _ _ _ _ h)
theorem niJInteger_getChars_IIAB_SB0 : ∀ n, NIJInteger_getChars_IIAB_SB0 n := by
  intro n
  induction n with
  | zero => exact (fun _ _ _ _ r h => by cases (show none = some r from h))
  | succ n ih => exact fun x0 x1 x2 x3 r h => nJInteger_getChars_IIAB_SB0_22 ih x0 x1 x2 x3 r h
theorem nJInteger_getChars_IIAB_SB0 (v0 : Int32) (v1 : Int32) (o0 : cf_O) (r : Int32 × cf_O) (h : fJInteger_getChars_IIAB_SB0 v0 v1 o0 = some r) : phSB o0 ≤ phSB r.2 := nJInteger_getChars_IIAB_SB0_0 (niJInteger_getChars_IIAB_SB0 cfFU) v0 v1 o0 r h
def IhJInteger_getChars_IIAB_SB0 (p : Program) (l : Launch) (e : Env) (s : State) (m : MethodId) (below : List Frame) (meth : Method) (c : Code) (A : Nat → Prop) (D : va_G) (K : Nat → ClassId) (h0 : Nat) (a0 : Nat → Nat) (AR : Array Value) (n : Nat) : Prop := (∀ (v0 : Int32) (v5 : Int32) (v6 : Int32) (o0 : cf_O) (r : Int32 × cf_O), gJInteger_getChars_IIAB_SB0 n 0 v0 v5 v6 o0 = some r → ∀ {H : Heap} {locs : List Loc} {ls : Array Slot}, (va_P D vwCl (wSB K h0 a0 o0) H) → (va_D A (wSB K h0 a0 o0)) → va_S A s.heap H locs → lv_has ls 7 [(0, .int v0), (2, .ref (a0 0)), (5, .int v5), (6, .int v6)] → W p l e ({ frames := 0, cells := 0, slots := 0, locals := 0 }) s m AR below meth c H locs 0 0 (MQ below (va_Qi (fun (x : Int32) (_ : Unit) => x = r.1) (fun (_ : Unit) t => cf_At D A (wSB K h0 a0 r.2) t) A) AR s 0 0 A) (F0 m 22 ls []))
set_option maxHeartbeats 4000000 in
set_option maxRecDepth 100000 in
theorem bJInteger_getChars_IIAB_SB0_118 {p : Program} {l : Launch} {e : Env} {s : State} {m : MethodId} {below : List Frame} {meth : Method} {c : Code} {A : Nat → Prop} {D : va_G} {K : Nat → ClassId} {h0 : Nat} {a0 : Nat → Nat} {AR : Array Value} (C : (dc_C p s m AR meth c cJInteger_getChars_IIAB 7 (Option.some Jvm.ClassFile.FieldType.int) yJInteger_getChars_IIAB ∧ cf_E D K A s s.heap ∧ ∀ q, s.heap.size ≤ q → A q)) {n : Nat} (ih : IhJInteger_getChars_IIAB_SB0 p l e s m below meth c A D K h0 a0 AR n) (v5 : Int32) (o0 : cf_O) (r : Int32 × cf_O) (h : fJInteger_getChars_IIAB_SB0_118 (gJInteger_getChars_IIAB_SB0 n) v5 o0 = some r) {H : Heap} {locs : List Loc} {ls : Array Slot} (hP : va_P D vwCl (wSB K h0 a0 o0) H) (hD : va_D A (wSB K h0 a0 o0)) (hS : va_S A s.heap H locs) (hl : lv_has ls 7 [(5, .int v5)]) : W p l e ({ frames := 0, cells := 0, slots := 0, locals := 0 }) s m AR below meth c H locs 0 0 (MQ below (va_Qi (fun (x : Int32) (_ : Unit) => x = r.1) (fun (_ : Unit) t => cf_At D A (wSB K h0 a0 r.2) t) A) AR s 0 0 A) (F0 m 118 ls []) := by
  obtain ⟨⟨hx, hb, hr, hts, hown, hlocks, hin, hml⟩, hE, hA⟩ := id C
  have hK := hE.k
  obtain ⟨t_gerDigitOnes, hZt_gerDigitOnes, hTt_gerDigitOnes⟩ := hE.2.2.2.2.2.2.2.2.2.1
  obtain ⟨t_gerDigitTens, hZt_gerDigitTens, hTt_gerDigitTens⟩ := hE.2.2.2.2.2.2.2.2.2.2.1
  refine lv_iload hx hb dJInteger_getChars_IIAB_118 (lv_at hl 0 rfl) ?_
  obtain rfl := Option.some.inj h
  exact dc_iret hx hb hr hlocks rfl hP hD hS dJInteger_getChars_IIAB_120
set_option maxHeartbeats 4000000 in
set_option maxRecDepth 100000 in
theorem bJInteger_getChars_IIAB_SB0_104 {p : Program} {l : Launch} {e : Env} {s : State} {m : MethodId} {below : List Frame} {meth : Method} {c : Code} {A : Nat → Prop} {D : va_G} {K : Nat → ClassId} {h0 : Nat} {a0 : Nat → Nat} {AR : Array Value} (C : (dc_C p s m AR meth c cJInteger_getChars_IIAB 7 (Option.some Jvm.ClassFile.FieldType.int) yJInteger_getChars_IIAB ∧ cf_E D K A s s.heap ∧ ∀ q, s.heap.size ≤ q → A q)) {n : Nat} (ih : IhJInteger_getChars_IIAB_SB0 p l e s m below meth c A D K h0 a0 AR n) (v5 : Int32) (v6 : Int32) (o0 : cf_O) (r : Int32 × cf_O) (h : fJInteger_getChars_IIAB_SB0_104 (gJInteger_getChars_IIAB_SB0 n) v5 v6 o0 = some r) {H : Heap} {locs : List Loc} {ls : Array Slot} (hP : va_P D vwCl (wSB K h0 a0 o0) H) (hD : va_D A (wSB K h0 a0 o0)) (hS : va_S A s.heap H locs) (hl : lv_has ls 7 [(2, .ref (a0 0)), (5, .int v5), (6, .int v6)]) : W p l e ({ frames := 0, cells := 0, slots := 0, locals := 0 }) s m AR below meth c H locs 0 0 (MQ below (va_Qi (fun (x : Int32) (_ : Unit) => x = r.1) (fun (_ : Unit) t => cf_At D A (wSB K h0 a0 r.2) t) A) AR s 0 0 A) (F0 m 104 ls []) := by
  obtain ⟨⟨hx, hb, hr, hts, hown, hlocks, hin, hml⟩, hE, hA⟩ := id C
  have hK := hE.k
  obtain ⟨t_gerDigitOnes, hZt_gerDigitOnes, hTt_gerDigitOnes⟩ := hE.2.2.2.2.2.2.2.2.2.1
  obtain ⟨t_gerDigitTens, hZt_gerDigitTens, hTt_gerDigitTens⟩ := hE.2.2.2.2.2.2.2.2.2.2.1
  refine lv_iload hx hb dJInteger_getChars_IIAB_104 (lv_at hl 2 rfl) ?_
  refine lv_if_eq (tgt := 118) hx hb dJInteger_getChars_IIAB_106 (by decide) (fun c_1 => ?_) (fun c_1 => ?_)
  · have h := op_t c_1 h
    exact bJInteger_getChars_IIAB_SB0_118 C ih _ _ _ h hP hD hS (lv_sub hl [1] rfl)
  · have h := op_f c_1 h
    refine lv_aload_n hx hb dJInteger_getChars_IIAB_109 rfl (lv_at hl 0 rfl) ?_
    obtain ⟨x_2, ex_2⟩ : ∃ y : Int32, y = v5 + (-1) := ⟨_, rfl⟩
    refine lv_iinc (v := x_2) (lv' := [(5, .int x_2), (2, .ref (a0 0)), (6, .int v6)]) hx hb dJInteger_getChars_IIAB_110 hl (k := 1) rfl (by rw [ex_2]; rfl) (by decide) rfl (fun ls hl => ?_)
    have h := op_ks ex_2 h
    refine lv_iload hx hb dJInteger_getChars_IIAB_113 (lv_at hl 0 rfl) ?_
    refine lv_bipush (v := 45) hx hb dJInteger_getChars_IIAB_115 (by decide) ?_
    obtain ⟨hi_3, h⟩ := op_n h
    refine va_bast (D := D) hx hb hK hP hD hS 1 2 rfl rfl hi_3 dJInteger_getChars_IIAB_117 (fun H locs hP hD hS => ?_)
    have hP : va_P D vwCl (wSB K h0 a0 (xp o0 0 x_2.toNatClampNeg (vp_nar .byte 45))) H := hP
    have hD : va_D A (wSB K h0 a0 (xp o0 0 x_2.toNatClampNeg (vp_nar .byte 45))) := hD
    obtain ⟨o_4, eo_4, h⟩ := op_kx h
    rw [← eo_4] at hP hD
    exact bJInteger_getChars_IIAB_SB0_118 C ih _ _ _ h hP hD hS (lv_sub hl [0] rfl)
set_option maxHeartbeats 4000000 in
set_option maxRecDepth 100000 in
theorem bJInteger_getChars_IIAB_SB0_22 {p : Program} {l : Launch} {e : Env} {s : State} {m : MethodId} {below : List Frame} {meth : Method} {c : Code} {A : Nat → Prop} {D : va_G} {K : Nat → ClassId} {h0 : Nat} {a0 : Nat → Nat} {AR : Array Value} (C : (dc_C p s m AR meth c cJInteger_getChars_IIAB 7 (Option.some Jvm.ClassFile.FieldType.int) yJInteger_getChars_IIAB ∧ cf_E D K A s s.heap ∧ ∀ q, s.heap.size ≤ q → A q)) {n : Nat} (ih : IhJInteger_getChars_IIAB_SB0 p l e s m below meth c A D K h0 a0 AR n) (v0 : Int32) (v5 : Int32) (v6 : Int32) (o0 : cf_O) (r : Int32 × cf_O) (h : fJInteger_getChars_IIAB_SB0_22 (gJInteger_getChars_IIAB_SB0 n) v0 v5 v6 o0 = some r) {H : Heap} {locs : List Loc} {ls : Array Slot} (hP : va_P D vwCl (wSB K h0 a0 o0) H) (hD : va_D A (wSB K h0 a0 o0)) (hS : va_S A s.heap H locs) (hl : lv_has ls 7 [(0, .int v0), (2, .ref (a0 0)), (5, .int v5), (6, .int v6)]) : W p l e ({ frames := 0, cells := 0, slots := 0, locals := 0 }) s m AR below meth c H locs 0 0 (MQ below (va_Qi (fun (x : Int32) (_ : Unit) => x = r.1) (fun (_ : Unit) t => cf_At D A (wSB K h0 a0 r.2) t) A) AR s 0 0 A) (F0 m 22 ls []) := by
  obtain ⟨⟨hx, hb, hr, hts, hown, hlocks, hin, hml⟩, hE, hA⟩ := id C
  have hK := hE.k
  obtain ⟨t_gerDigitOnes, hZt_gerDigitOnes, hTt_gerDigitOnes⟩ := hE.2.2.2.2.2.2.2.2.2.1
  obtain ⟨t_gerDigitTens, hZt_gerDigitTens, hTt_gerDigitTens⟩ := hE.2.2.2.2.2.2.2.2.2.2.1
  refine lv_iload_n hx hb dJInteger_getChars_IIAB_22 rfl (lv_at hl 0 rfl) ?_
  refine lv_bipush (v := (-100)) hx hb dJInteger_getChars_IIAB_23 (by decide) ?_
  refine lv_icmp_gt (tgt := 72) hx hb dJInteger_getChars_IIAB_25 (by decide) (fun c_1 => ?_) (fun c_1 => ?_)
  · have h := op_t c_1 h
    refine lv_aload_n hx hb dJInteger_getChars_IIAB_72 rfl (lv_at hl 1 rfl) ?_
    obtain ⟨x_2, ex_2⟩ : ∃ y : Int32, y = v5 + (-1) := ⟨_, rfl⟩
    refine lv_iinc (v := x_2) (lv' := [(5, .int x_2), (0, .int v0), (2, .ref (a0 0)), (6, .int v6)]) hx hb dJInteger_getChars_IIAB_73 hl (k := 2) rfl (by rw [ex_2]; rfl) (by decide) rfl (fun ls hl => ?_)
    have h := op_ks ex_2 h
    refine lv_iload hx hb dJInteger_getChars_IIAB_76 (lv_at hl 0 rfl) ?_
    refine va_gets hx hb hZt_gerDigitOnes hS hown (hts _ wv_1658) (fun _ h9 => h9) dJInteger_getChars_IIAB_78 ?_
    refine lv_iload_n hx hb dJInteger_getChars_IIAB_81 rfl (lv_at hl 1 rfl) ?_
    refine lv_ineg hx hb dJInteger_getChars_IIAB_82 ?_
    refine lv_topi (fun x_3 ex_3 => ?_)
    have h := op_ks ex_3 h
    obtain ⟨hi_4, h⟩ := op_n h
    refine va_tb hx hb hTt_gerDigitOnes hS (i := x_3) hi_4 (v := .int (cf_ones x_3.toNatClampNeg)) rfl dJInteger_getChars_IIAB_83 ?_
    refine lv_topi (fun x_5 ex_5 => ?_)
    have h := op_ks ex_5 h
    obtain ⟨hi_6, h⟩ := op_n h
    refine va_bast (D := D) hx hb hK hP hD hS 1 2 rfl rfl hi_6 dJInteger_getChars_IIAB_84 (fun H locs hP hD hS => ?_)
    have hP : va_P D vwCl (wSB K h0 a0 (xp o0 0 x_2.toNatClampNeg (vp_nar .byte x_5))) H := hP
    have hD : va_D A (wSB K h0 a0 (xp o0 0 x_2.toNatClampNeg (vp_nar .byte x_5))) := hD
    obtain ⟨o_7, eo_7, h⟩ := op_kx h
    rw [← eo_7] at hP hD
    refine lv_iload_n hx hb dJInteger_getChars_IIAB_85 rfl (lv_at hl 1 rfl) ?_
    refine lv_bipush (v := (-9)) hx hb dJInteger_getChars_IIAB_86 (by decide) ?_
    refine lv_icmp_ge (tgt := 104) hx hb dJInteger_getChars_IIAB_88 (by decide) (fun c_8 => ?_) (fun c_8 => ?_)
    · have h := op_t c_8 h
      exact bJInteger_getChars_IIAB_SB0_104 C ih _ _ _ _ h hP hD hS (lv_sub hl [2, 0, 3] rfl)
    · have h := op_f c_8 h
      refine lv_aload_n hx hb dJInteger_getChars_IIAB_91 rfl (lv_at hl 2 rfl) ?_
      obtain ⟨x_9, ex_9⟩ : ∃ y : Int32, y = x_2 + (-1) := ⟨_, rfl⟩
      refine lv_iinc (v := x_9) (lv' := [(5, .int x_9), (0, .int v0), (2, .ref (a0 0)), (6, .int v6)]) hx hb dJInteger_getChars_IIAB_92 hl (k := 0) rfl (by rw [ex_9]; rfl) (by decide) rfl (fun ls hl => ?_)
      have h := op_ks ex_9 h
      refine lv_iload hx hb dJInteger_getChars_IIAB_95 (lv_at hl 0 rfl) ?_
      refine va_gets hx hb hZt_gerDigitTens hS hown (hts _ wv_1660) (fun _ h9 => h9) dJInteger_getChars_IIAB_97 ?_
      refine lv_iload_n hx hb dJInteger_getChars_IIAB_100 rfl (lv_at hl 1 rfl) ?_
      refine lv_ineg hx hb dJInteger_getChars_IIAB_101 ?_
      refine lv_topi (fun x_10 ex_10 => ?_)
      have h := op_ks ex_10 h
      obtain ⟨hi_11, h⟩ := op_n h
      refine va_tb hx hb hTt_gerDigitTens hS (i := x_10) hi_11 (v := .int (cf_tens x_10.toNatClampNeg)) rfl dJInteger_getChars_IIAB_102 ?_
      refine lv_topi (fun x_12 ex_12 => ?_)
      have h := op_ks ex_12 h
      obtain ⟨hi_13, h⟩ := op_n h
      refine va_bast (D := D) hx hb hK hP hD hS 1 2 rfl rfl hi_13 dJInteger_getChars_IIAB_103 (fun H locs hP hD hS => ?_)
      have hP : va_P D vwCl (wSB K h0 a0 (xp o_7 0 x_9.toNatClampNeg (vp_nar .byte x_12))) H := hP
      have hD : va_D A (wSB K h0 a0 (xp o_7 0 x_9.toNatClampNeg (vp_nar .byte x_12))) := hD
      obtain ⟨o_14, eo_14, h⟩ := op_kx h
      rw [← eo_14] at hP hD
      exact bJInteger_getChars_IIAB_SB0_104 C ih _ _ _ _ h hP hD hS (lv_sub hl [2, 0, 3] rfl)
  · have h := op_f c_1 h
    refine lv_iload_n hx hb dJInteger_getChars_IIAB_28 rfl (lv_at hl 0 rfl) ?_
    refine lv_bipush (v := 100) hx hb dJInteger_getChars_IIAB_29 (by decide) ?_
    refine lv_idiv hx hb dJInteger_getChars_IIAB_31 (by decide) ?_
    refine lv_topi (fun x_15 ex_15 => ?_)
    have h := op_ks ex_15 h
    refine lv_istore_n (lv' := [(3, .int x_15), (0, .int v0), (2, .ref (a0 0)), (5, .int v5), (6, .int v6)]) hx hb dJInteger_getChars_IIAB_32 rfl hl (by decide) rfl (fun ls hl => ?_)
    refine lv_iload_n hx hb dJInteger_getChars_IIAB_33 rfl (lv_at hl 0 rfl) ?_
    refine lv_bipush (v := 100) hx hb dJInteger_getChars_IIAB_34 (by decide) ?_
    refine lv_imul hx hb dJInteger_getChars_IIAB_36 ?_
    refine lv_topi (fun x_16 ex_16 => ?_)
    have h := op_ks ex_16 h
    refine lv_iload_n hx hb dJInteger_getChars_IIAB_37 rfl (lv_at hl 1 rfl) ?_
    refine lv_isub hx hb dJInteger_getChars_IIAB_38 ?_
    refine lv_topi (fun x_17 ex_17 => ?_)
    have h := op_ks ex_17 h
    refine lv_istore (lv' := [(4, .int x_17), (3, .int x_15), (0, .int v0), (2, .ref (a0 0)), (5, .int v5), (6, .int v6)]) hx hb dJInteger_getChars_IIAB_39 hl (by decide) rfl (fun ls hl => ?_)
    refine lv_iload_n hx hb dJInteger_getChars_IIAB_41 rfl (lv_at hl 1 rfl) ?_
    refine lv_istore_n (lv' := [(0, .int x_15), (4, .int x_17), (3, .int x_15), (2, .ref (a0 0)), (5, .int v5), (6, .int v6)]) hx hb dJInteger_getChars_IIAB_42 rfl hl (by decide) rfl (fun ls hl => ?_)
    refine lv_aload_n hx hb dJInteger_getChars_IIAB_43 rfl (lv_at hl 3 rfl) ?_
    obtain ⟨x_18, ex_18⟩ : ∃ y : Int32, y = v5 + (-1) := ⟨_, rfl⟩
    refine lv_iinc (v := x_18) (lv' := [(5, .int x_18), (0, .int x_15), (4, .int x_17), (3, .int x_15), (2, .ref (a0 0)), (6, .int v6)]) hx hb dJInteger_getChars_IIAB_44 hl (k := 4) rfl (by rw [ex_18]; rfl) (by decide) rfl (fun ls hl => ?_)
    have h := op_ks ex_18 h
    refine lv_iload hx hb dJInteger_getChars_IIAB_47 (lv_at hl 0 rfl) ?_
    refine va_gets hx hb hZt_gerDigitOnes hS hown (hts _ wv_1658) (fun _ h9 => h9) dJInteger_getChars_IIAB_49 ?_
    refine lv_iload hx hb dJInteger_getChars_IIAB_52 (lv_at hl 2 rfl) ?_
    obtain ⟨hi_19, h⟩ := op_n h
    refine va_tb hx hb hTt_gerDigitOnes hS (i := x_17) hi_19 (v := .int (cf_ones x_17.toNatClampNeg)) rfl dJInteger_getChars_IIAB_54 ?_
    refine lv_topi (fun x_20 ex_20 => ?_)
    have h := op_ks ex_20 h
    obtain ⟨hi_21, h⟩ := op_n h
    refine va_bast (D := D) hx hb hK hP hD hS 1 2 rfl rfl hi_21 dJInteger_getChars_IIAB_55 (fun H locs hP hD hS => ?_)
    have hP : va_P D vwCl (wSB K h0 a0 (xp o0 0 x_18.toNatClampNeg (vp_nar .byte x_20))) H := hP
    have hD : va_D A (wSB K h0 a0 (xp o0 0 x_18.toNatClampNeg (vp_nar .byte x_20))) := hD
    obtain ⟨o_22, eo_22, h⟩ := op_kx h
    rw [← eo_22] at hP hD
    refine lv_aload_n hx hb dJInteger_getChars_IIAB_56 rfl (lv_at hl 4 rfl) ?_
    obtain ⟨x_23, ex_23⟩ : ∃ y : Int32, y = x_18 + (-1) := ⟨_, rfl⟩
    refine lv_iinc (v := x_23) (lv' := [(5, .int x_23), (0, .int x_15), (4, .int x_17), (3, .int x_15), (2, .ref (a0 0)), (6, .int v6)]) hx hb dJInteger_getChars_IIAB_57 hl (k := 0) rfl (by rw [ex_23]; rfl) (by decide) rfl (fun ls hl => ?_)
    have h := op_ks ex_23 h
    refine lv_iload hx hb dJInteger_getChars_IIAB_60 (lv_at hl 0 rfl) ?_
    refine va_gets hx hb hZt_gerDigitTens hS hown (hts _ wv_1660) (fun _ h9 => h9) dJInteger_getChars_IIAB_62 ?_
    refine lv_iload hx hb dJInteger_getChars_IIAB_65 (lv_at hl 2 rfl) ?_
    obtain ⟨hi_24, h⟩ := op_n h
    refine va_tb hx hb hTt_gerDigitTens hS (i := x_17) hi_24 (v := .int (cf_tens x_17.toNatClampNeg)) rfl dJInteger_getChars_IIAB_67 ?_
    refine lv_topi (fun x_25 ex_25 => ?_)
    have h := op_ks ex_25 h
    obtain ⟨hi_26, h⟩ := op_n h
    refine va_bast (D := D) hx hb hK hP hD hS 1 2 rfl rfl hi_26 dJInteger_getChars_IIAB_68 (fun H locs hP hD hS => ?_)
    have hP : va_P D vwCl (wSB K h0 a0 (xp o_22 0 x_23.toNatClampNeg (vp_nar .byte x_25))) H := hP
    have hD : va_D A (wSB K h0 a0 (xp o_22 0 x_23.toNatClampNeg (vp_nar .byte x_25))) := hD
    obtain ⟨o_27, eo_27, h⟩ := op_kx h
    rw [← eo_27] at hP hD
    refine lv_goto (tgt := 22) hx hb dJInteger_getChars_IIAB_69 (by decide) ?_
    exact (ih) _ _ _ _ _ h hP hD hS (lv_sub hl [1, 4, 0, 5] rfl)
set_option maxHeartbeats 4000000 in
set_option maxRecDepth 100000 in
theorem bJInteger_getChars_IIAB_SB0_12 {p : Program} {l : Launch} {e : Env} {s : State} {m : MethodId} {below : List Frame} {meth : Method} {c : Code} {A : Nat → Prop} {D : va_G} {K : Nat → ClassId} {h0 : Nat} {a0 : Nat → Nat} {AR : Array Value} (C : (dc_C p s m AR meth c cJInteger_getChars_IIAB 7 (Option.some Jvm.ClassFile.FieldType.int) yJInteger_getChars_IIAB ∧ cf_E D K A s s.heap ∧ ∀ q, s.heap.size ≤ q → A q)) {n : Nat} (ih : IhJInteger_getChars_IIAB_SB0 p l e s m below meth c A D K h0 a0 AR n) (v0 : Int32) (v5 : Int32) (s0 : Int32) (o0 : cf_O) (r : Int32 × cf_O) (h : fJInteger_getChars_IIAB_SB0_12 (gJInteger_getChars_IIAB_SB0 n) v0 v5 s0 o0 = some r) {H : Heap} {locs : List Loc} {ls : Array Slot} (hP : va_P D vwCl (wSB K h0 a0 o0) H) (hD : va_D A (wSB K h0 a0 o0)) (hS : va_S A s.heap H locs) (hl : lv_has ls 7 [(0, .int v0), (2, .ref (a0 0)), (5, .int v5)]) : W p l e ({ frames := 0, cells := 0, slots := 0, locals := 0 }) s m AR below meth c H locs 0 0 (MQ below (va_Qi (fun (x : Int32) (_ : Unit) => x = r.1) (fun (_ : Unit) t => cf_At D A (wSB K h0 a0 r.2) t) A) AR s 0 0 A) (F0 m 12 ls [.int s0]) := by
  obtain ⟨⟨hx, hb, hr, hts, hown, hlocks, hin, hml⟩, hE, hA⟩ := id C
  have hK := hE.k
  obtain ⟨t_gerDigitOnes, hZt_gerDigitOnes, hTt_gerDigitOnes⟩ := hE.2.2.2.2.2.2.2.2.2.1
  obtain ⟨t_gerDigitTens, hZt_gerDigitTens, hTt_gerDigitTens⟩ := hE.2.2.2.2.2.2.2.2.2.2.1
  refine lv_istore (lv' := [(6, .int s0), (0, .int v0), (2, .ref (a0 0)), (5, .int v5)]) hx hb dJInteger_getChars_IIAB_12 hl (by decide) rfl (fun ls hl => ?_)
  refine lv_iload hx hb dJInteger_getChars_IIAB_14 (lv_at hl 0 rfl) ?_
  refine lv_if_ne (tgt := 22) hx hb dJInteger_getChars_IIAB_16 (by decide) (fun c_1 => ?_) (fun c_1 => ?_)
  · have h := op_f c_1 h
    exact (ih) _ _ _ _ _ h hP hD hS (lv_sub hl [1, 2, 3, 0] rfl)
  · have h := op_t c_1 h
    refine lv_iload_n hx hb dJInteger_getChars_IIAB_19 rfl (lv_at hl 1 rfl) ?_
    refine lv_ineg hx hb dJInteger_getChars_IIAB_20 ?_
    refine lv_topi (fun x_2 ex_2 => ?_)
    have h := op_ks ex_2 h
    refine lv_istore_n (lv' := [(0, .int x_2), (6, .int s0), (2, .ref (a0 0)), (5, .int v5)]) hx hb dJInteger_getChars_IIAB_21 rfl hl (by decide) rfl (fun ls hl => ?_)
    exact (ih) _ _ _ _ _ h hP hD hS (lv_sub hl [0, 2, 3, 1] rfl)
set_option maxHeartbeats 4000000 in
set_option maxRecDepth 100000 in
theorem bJInteger_getChars_IIAB_SB0_0 {p : Program} {l : Launch} {e : Env} {s : State} {m : MethodId} {below : List Frame} {meth : Method} {c : Code} {A : Nat → Prop} {D : va_G} {K : Nat → ClassId} {h0 : Nat} {a0 : Nat → Nat} {AR : Array Value} (C : (dc_C p s m AR meth c cJInteger_getChars_IIAB 7 (Option.some Jvm.ClassFile.FieldType.int) yJInteger_getChars_IIAB ∧ cf_E D K A s s.heap ∧ ∀ q, s.heap.size ≤ q → A q)) {n : Nat} (ih : IhJInteger_getChars_IIAB_SB0 p l e s m below meth c A D K h0 a0 AR n) (v0 : Int32) (v1 : Int32) (o0 : cf_O) (r : Int32 × cf_O) (h : fJInteger_getChars_IIAB_SB0_0 (gJInteger_getChars_IIAB_SB0 n) v0 v1 o0 = some r) {H : Heap} {locs : List Loc} {ls : Array Slot} (hP : va_P D vwCl (wSB K h0 a0 o0) H) (hD : va_D A (wSB K h0 a0 o0)) (hS : va_S A s.heap H locs) (hl : lv_has ls 7 [(0, .int v0), (1, .int v1), (2, .ref (a0 0))]) : W p l e ({ frames := 0, cells := 0, slots := 0, locals := 0 }) s m AR below meth c H locs 0 0 (MQ below (va_Qi (fun (x : Int32) (_ : Unit) => x = r.1) (fun (_ : Unit) t => cf_At D A (wSB K h0 a0 r.2) t) A) AR s 0 0 A) (F0 m 0 ls []) := by
  obtain ⟨⟨hx, hb, hr, hts, hown, hlocks, hin, hml⟩, hE, hA⟩ := id C
  have hK := hE.k
  obtain ⟨t_gerDigitOnes, hZt_gerDigitOnes, hTt_gerDigitOnes⟩ := hE.2.2.2.2.2.2.2.2.2.1
  obtain ⟨t_gerDigitTens, hZt_gerDigitTens, hTt_gerDigitTens⟩ := hE.2.2.2.2.2.2.2.2.2.2.1
  refine lv_iload_n hx hb dJInteger_getChars_IIAB_0 rfl (lv_at hl 1 rfl) ?_
  refine lv_istore (lv' := [(5, .int v1), (0, .int v0), (1, .int v1), (2, .ref (a0 0))]) hx hb dJInteger_getChars_IIAB_1 hl (by decide) rfl (fun ls hl => ?_)
  refine lv_iload_n hx hb dJInteger_getChars_IIAB_3 rfl (lv_at hl 1 rfl) ?_
  refine lv_if_ge (tgt := 11) hx hb dJInteger_getChars_IIAB_4 (by decide) (fun c_1 => ?_) (fun c_1 => ?_)
  · have h := op_t c_1 h
    refine lv_iconst (v := 0) hx hb dJInteger_getChars_IIAB_11 (by decide) ?_
    exact bJInteger_getChars_IIAB_SB0_12 C ih _ _ _ _ _ h hP hD hS (lv_sub hl [1, 3, 0] rfl)
  · have h := op_f c_1 h
    refine lv_iconst (v := 1) hx hb dJInteger_getChars_IIAB_7 (by decide) ?_
    refine lv_goto (tgt := 12) hx hb dJInteger_getChars_IIAB_8 (by decide) ?_
    exact bJInteger_getChars_IIAB_SB0_12 C ih _ _ _ _ _ h hP hD hS (lv_sub hl [1, 3, 0] rfl)
theorem iJInteger_getChars_IIAB_SB0 {p : Program} {l : Launch} {e : Env} {s : State} {m : MethodId} {below : List Frame} {meth : Method} {c : Code} {A : Nat → Prop} {D : va_G} {K : Nat → ClassId} {h0 : Nat} {a0 : Nat → Nat} {AR : Array Value} (C : (dc_C p s m AR meth c cJInteger_getChars_IIAB 7 (Option.some Jvm.ClassFile.FieldType.int) yJInteger_getChars_IIAB ∧ cf_E D K A s s.heap ∧ ∀ q, s.heap.size ≤ q → A q)) : ∀ n, IhJInteger_getChars_IIAB_SB0 p l e s m below meth c A D K h0 a0 AR n := by
  intro n
  induction n with
  | zero => exact (fun _ _ _ _ r h => by cases (show none = some r from h))
  | succ n ih => exact fun x0 x1 x2 x3 r h _ _ _ hP hD hS hl => bJInteger_getChars_IIAB_SB0_22 C ih x0 x1 x2 x3 r h hP hD hS hl
set_option maxRecDepth 100000 in
theorem mJInteger_getChars_IIAB_SB0 (l : Launch) (D : va_G) (K : Nat → ClassId) (sz : Nat) (v0 : Int32) (v1 : Int32) (h0 : Nat) (a0 : Nat → Nat) (o0 : cf_O) (r : Int32 × cf_O) (h : fJInteger_getChars_IIAB_SB0 v0 v1 o0 = some r) : Met l yJInteger_getChars_IIAB (Cond.code yJInteger_getChars_IIAB cJInteger_getChars_IIAB 7 (Option.some Jvm.ClassFile.FieldType.int) :: cfB) ({ frames := 0, cells := 0, slots := 0, locals := 0 }) (va_Pc [.int v0, .int v1, .ref (a0 0)] (cf_Pre D K sz (wSB K h0 a0 o0))) (va_Qi (fun (x : Int32) (_ : Unit) => x = r.1) (fun (_ : Unit) t => cf_At D (va_A (wSB K h0 a0 o0) sz) (wSB K h0 a0 r.2) t) (va_A (wSB K h0 a0 o0) sz)) 0 0 (va_A (wSB K h0 a0 o0) sz) := by
  refine cf_ofW (y := yJInteger_getChars_IIAB) (As := [.int v0, .int v1, .ref (a0 0)]) (WS := wSB K h0 a0 o0) (maxL := 7) (fun A => (va_Qi (fun (x : Int32) (_ : Unit) => x = r.1) (fun (_ : Unit) t => cf_At D A (wSB K h0 a0 r.2) t) A)) (by decide) (Nat.le_of_ble_eq_true rfl) ?_
  intro p e s m below meth c A ls En hsz hA hP hD hE hS hl
  have C : (dc_C p s m (([.int v0, .int v1, .ref (a0 0)] : List Value).toArray) meth c cJInteger_getChars_IIAB 7 (Option.some Jvm.ClassFile.FieldType.int) yJInteger_getChars_IIAB ∧ cf_E D K A s s.heap ∧ ∀ q, s.heap.size ≤ q → A q) := ⟨En, hE, hA⟩
  exact bJInteger_getChars_IIAB_SB0_0 C (iJInteger_getChars_IIAB_SB0 C cfFU) v0 v1 o0 r h hP hD hS hl

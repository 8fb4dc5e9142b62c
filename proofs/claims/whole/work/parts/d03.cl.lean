def yAS_appendI : MethodName := ⟨"java/lang/AbstractStringBuilder", "append", "(I)Ljava/lang/AbstractStringBuilder;"⟩
abbrev cAS_appendI : ByteArray := prog_15_method_32_code
theorem dAS_appendI_0 : decode cAS_appendI 0 = .ok (.aload_n 0, 1) := by decide +kernel
theorem dAS_appendI_1 : decode cAS_appendI 1 = .ok (.getfield 79, 3) := by decide +kernel
theorem dAS_appendI_4 : decode cAS_appendI 4 = .ok (.istore_n 2, 1) := by decide +kernel
theorem dAS_appendI_5 : decode cAS_appendI 5 = .ok (.iload_n 2, 1) := by decide +kernel
theorem dAS_appendI_6 : decode cAS_appendI 6 = .ok (.iload_n 1, 1) := by decide +kernel
theorem dAS_appendI_7 : decode cAS_appendI 7 = .ok (.invokestatic 245, 3) := by decide +kernel
theorem dAS_appendI_10 : decode cAS_appendI 10 = .ok (.iadd, 1) := by decide +kernel
theorem dAS_appendI_11 : decode cAS_appendI 11 = .ok (.istore_n 3, 1) := by decide +kernel
theorem dAS_appendI_12 : decode cAS_appendI 12 = .ok (.aload_n 0, 1) := by decide +kernel
theorem dAS_appendI_13 : decode cAS_appendI 13 = .ok (.iload_n 3, 1) := by decide +kernel
theorem dAS_appendI_14 : decode cAS_appendI 14 = .ok (.invokevirtual 100, 3) := by decide +kernel
theorem dAS_appendI_17 : decode cAS_appendI 17 = .ok (.aload_n 0, 1) := by decide +kernel
theorem dAS_appendI_18 : decode cAS_appendI 18 = .ok (.invokevirtual 83, 3) := by decide +kernel
theorem dAS_appendI_21 : decode cAS_appendI 21 = .ok (.ifCond .eq 16, 3) := by decide +kernel
theorem dAS_appendI_24 : decode cAS_appendI 24 = .ok (.iload_n 1, 1) := by decide +kernel
theorem dAS_appendI_25 : decode cAS_appendI 25 = .ok (.iload_n 3, 1) := by decide +kernel
theorem dAS_appendI_26 : decode cAS_appendI 26 = .ok (.aload_n 0, 1) := by decide +kernel
theorem dAS_appendI_27 : decode cAS_appendI 27 = .ok (.getfield 15, 3) := by decide +kernel
theorem dAS_appendI_30 : decode cAS_appendI 30 = .ok (.invokestatic 248, 3) := by decide +kernel
theorem dAS_appendI_33 : decode cAS_appendI 33 = .ok (.pop, 1) := by decide +kernel
theorem dAS_appendI_34 : decode cAS_appendI 34 = .ok (.goto 14, 3) := by decide +kernel
theorem dAS_appendI_37 : decode cAS_appendI 37 = .ok (.iload_n 1, 1) := by decide +kernel
theorem dAS_appendI_38 : decode cAS_appendI 38 = .ok (.iload_n 2, 1) := by decide +kernel
theorem dAS_appendI_39 : decode cAS_appendI 39 = .ok (.iload_n 3, 1) := by decide +kernel
theorem dAS_appendI_40 : decode cAS_appendI 40 = .ok (.aload_n 0, 1) := by decide +kernel
theorem dAS_appendI_41 : decode cAS_appendI 41 = .ok (.getfield 15, 3) := by decide +kernel
theorem dAS_appendI_44 : decode cAS_appendI 44 = .ok (.invokestatic 251, 3) := by decide +kernel
theorem dAS_appendI_47 : decode cAS_appendI 47 = .ok (.pop, 1) := by decide +kernel
theorem dAS_appendI_48 : decode cAS_appendI 48 = .ok (.aload_n 0, 1) := by decide +kernel
theorem dAS_appendI_49 : decode cAS_appendI 49 = .ok (.iload_n 3, 1) := by decide +kernel
theorem dAS_appendI_50 : decode cAS_appendI 50 = .ok (.putfield 79, 3) := by decide +kernel
theorem dAS_appendI_53 : decode cAS_appendI 53 = .ok (.aload_n 0, 1) := by decide +kernel
theorem dAS_appendI_54 : decode cAS_appendI 54 = .ok (.areturn, 1) := by decide +kernel
theorem wv_1655 : Cond.methodLink "java/lang/AbstractStringBuilder" 248 (⟨"java/lang/Integer", "getChars", "(II[B)I"⟩ : MethodName) ∈ cfB := cf_in 1655 (by decide +kernel) rfl
theorem wv_1657 : Cond.code (⟨"java/lang/Integer", "getChars", "(II[B)I"⟩ : MethodName) prog_22_method_12_code 7 (Option.some Jvm.ClassFile.FieldType.int) ∈ cfB := cf_in 1657 (by decide +kernel) rfl
theorem wv_1656 : Cond.static (⟨"java/lang/Integer", "getChars", "(II[B)I"⟩ : MethodName) ∈ cfB := cf_in 1656 (by decide +kernel) rfl
theorem wv_1652 : Cond.methodLink "java/lang/AbstractStringBuilder" 245 (⟨"java/lang/Integer", "stringSize", "(I)I"⟩ : MethodName) ∈ cfB := cf_in 1652 (by decide +kernel) rfl
theorem wv_1654 : Cond.code (⟨"java/lang/Integer", "stringSize", "(I)I"⟩ : MethodName) prog_22_method_13_code 4 (Option.some Jvm.ClassFile.FieldType.int) ∈ cfB := cf_in 1654 (by decide +kernel) rfl
theorem wv_1653 : Cond.static (⟨"java/lang/Integer", "stringSize", "(I)I"⟩ : MethodName) ∈ cfB := cf_in 1653 (by decide +kernel) rfl
def ySB_appendI : MethodName := ⟨"java/lang/StringBuilder", "append", "(I)Ljava/lang/StringBuilder;"⟩
abbrev cSB_appendI : ByteArray := prog_27_method_15_code
theorem dSB_appendI_0 : decode cSB_appendI 0 = .ok (.aload_n 0, 1) := by decide +kernel
theorem dSB_appendI_1 : decode cSB_appendI 1 = .ok (.iload_n 1, 1) := by decide +kernel
theorem dSB_appendI_2 : decode cSB_appendI 2 = .ok (.invokespecial 53, 3) := by decide +kernel
theorem dSB_appendI_5 : decode cSB_appendI 5 = .ok (.pop, 1) := by decide +kernel
theorem dSB_appendI_6 : decode cSB_appendI 6 = .ok (.aload_n 0, 1) := by decide +kernel
theorem dSB_appendI_7 : decode cSB_appendI 7 = .ok (.areturn, 1) := by decide +kernel
theorem wv_1649 : Cond.methodLink "java/lang/StringBuilder" 53 (⟨"java/lang/AbstractStringBuilder", "append", "(I)Ljava/lang/AbstractStringBuilder;"⟩ : MethodName) ∈ cfB := cf_in 1649 (by decide +kernel) rfl
theorem wv_1651 : Cond.code (⟨"java/lang/AbstractStringBuilder", "append", "(I)Ljava/lang/AbstractStringBuilder;"⟩ : MethodName) prog_15_method_32_code 4 (Option.some (Jvm.ClassFile.FieldType.object "java/lang/AbstractStringBuilder")) ∈ cfB := cf_in 1651 (by decide +kernel) rfl
theorem wv_2795 : Cond.sameMethod "java/lang/AbstractStringBuilder" "java/lang/AbstractStringBuilder" "append" "(I)Ljava/lang/AbstractStringBuilder;" ∈ cfB := cf_in 2795 (by decide +kernel) rfl
theorem wv_1650 : Cond.instanceMethod (⟨"java/lang/AbstractStringBuilder", "append", "(I)Ljava/lang/AbstractStringBuilder;"⟩ : MethodName) ∈ cfB := cf_in 1650 (by decide +kernel) rfl
def ySc_writeLiteral : MethodName := ⟨"CellForge$Script", "writeLiteral", "(LCellForge$Netlist;I)V"⟩
abbrev cSc_writeLiteral : ByteArray := prog_11_method_6_code
theorem dSc_writeLiteral_0 : decode cSc_writeLiteral 0 = .ok (.iload_n 2, 1) := by decide +kernel
theorem dSc_writeLiteral_1 : decode cSc_writeLiteral 1 = .ok (.iconst 1, 1) := by decide +kernel
theorem dSc_writeLiteral_2 : decode cSc_writeLiteral 2 = .ok (.ishr, 1) := by decide +kernel
theorem dSc_writeLiteral_3 : decode cSc_writeLiteral 3 = .ok (.istore_n 3, 1) := by decide +kernel
theorem dSc_writeLiteral_4 : decode cSc_writeLiteral 4 = .ok (.iload_n 2, 1) := by decide +kernel
theorem dSc_writeLiteral_5 : decode cSc_writeLiteral 5 = .ok (.iconst 1, 1) := by decide +kernel
theorem dSc_writeLiteral_6 : decode cSc_writeLiteral 6 = .ok (.iand, 1) := by decide +kernel
theorem dSc_writeLiteral_7 : decode cSc_writeLiteral 7 = .ok (.ifCond .ne 29, 3) := by decide +kernel
theorem dSc_writeLiteral_10 : decode cSc_writeLiteral 10 = .ok (.iload_n 3, 1) := by decide +kernel
theorem dSc_writeLiteral_11 : decode cSc_writeLiteral 11 = .ok (.iconst 1, 1) := by decide +kernel
theorem dSc_writeLiteral_12 : decode cSc_writeLiteral 12 = .ok (.if_icmp .lt 24, 3) := by decide +kernel
theorem dSc_writeLiteral_15 : decode cSc_writeLiteral 15 = .ok (.iload_n 3, 1) := by decide +kernel
theorem dSc_writeLiteral_16 : decode cSc_writeLiteral 16 = .ok (.aload_n 1, 1) := by decide +kernel
theorem dSc_writeLiteral_17 : decode cSc_writeLiteral 17 = .ok (.getfield 36, 3) := by decide +kernel
theorem dSc_writeLiteral_20 : decode cSc_writeLiteral 20 = .ok (.if_icmp .gt 16, 3) := by decide +kernel
theorem dSc_writeLiteral_23 : decode cSc_writeLiteral 23 = .ok (.aload_n 0, 1) := by decide +kernel
theorem dSc_writeLiteral_24 : decode cSc_writeLiteral 24 = .ok (.aload_n 1, 1) := by decide +kernel
theorem dSc_writeLiteral_25 : decode cSc_writeLiteral 25 = .ok (.getfield 42, 3) := by decide +kernel
theorem dSc_writeLiteral_28 : decode cSc_writeLiteral 28 = .ok (.iload_n 3, 1) := by decide +kernel
theorem dSc_writeLiteral_29 : decode cSc_writeLiteral 29 = .ok (.iconst 1, 1) := by decide +kernel
theorem dSc_writeLiteral_30 : decode cSc_writeLiteral 30 = .ok (.isub, 1) := by decide +kernel
theorem dSc_writeLiteral_31 : decode cSc_writeLiteral 31 = .ok (.laload, 1) := by decide +kernel
theorem dSc_writeLiteral_32 : decode cSc_writeLiteral 32 = .ok (.invokevirtual 46, 3) := by decide +kernel
theorem dSc_writeLiteral_35 : decode cSc_writeLiteral 35 = .ok (.return_, 1) := by decide +kernel
theorem dSc_writeLiteral_36 : decode cSc_writeLiteral 36 = .ok (.aload_n 0, 1) := by decide +kernel
theorem dSc_writeLiteral_37 : decode cSc_writeLiteral 37 = .ok (.getfield 12, 3) := by decide +kernel
theorem dSc_writeLiteral_40 : decode cSc_writeLiteral 40 = .ok (.iload_n 2, 1) := by decide +kernel
theorem dSc_writeLiteral_41 : decode cSc_writeLiteral 41 = .ok (.iconst 1, 1) := by decide +kernel
theorem dSc_writeLiteral_42 : decode cSc_writeLiteral 42 = .ok (.iand, 1) := by decide +kernel
theorem dSc_writeLiteral_43 : decode cSc_writeLiteral 43 = .ok (.ifCond .ne 8, 3) := by decide +kernel
theorem dSc_writeLiteral_46 : decode cSc_writeLiteral 46 = .ok (.ldc 67, 2) := by decide +kernel
theorem dSc_writeLiteral_48 : decode cSc_writeLiteral 48 = .ok (.goto 5, 3) := by decide +kernel
theorem dSc_writeLiteral_51 : decode cSc_writeLiteral 51 = .ok (.ldc 69, 2) := by decide +kernel
theorem dSc_writeLiteral_53 : decode cSc_writeLiteral 53 = .ok (.invokevirtual 32, 3) := by decide +kernel
theorem dSc_writeLiteral_56 : decode cSc_writeLiteral 56 = .ok (.pop, 1) := by decide +kernel
theorem dSc_writeLiteral_57 : decode cSc_writeLiteral 57 = .ok (.aload_n 0, 1) := by decide +kernel
theorem dSc_writeLiteral_58 : decode cSc_writeLiteral 58 = .ok (.getfield 12, 3) := by decide +kernel
theorem dSc_writeLiteral_61 : decode cSc_writeLiteral 61 = .ok (.iload_n 3, 1) := by decide +kernel
theorem dSc_writeLiteral_62 : decode cSc_writeLiteral 62 = .ok (.invokevirtual 71, 3) := by decide +kernel
theorem dSc_writeLiteral_65 : decode cSc_writeLiteral 65 = .ok (.pop, 1) := by decide +kernel
theorem dSc_writeLiteral_66 : decode cSc_writeLiteral 66 = .ok (.return_, 1) := by decide +kernel
theorem wv_1826 : Cond.methodLink "CellForge$Script" 71 (⟨"java/lang/StringBuilder", "append", "(I)Ljava/lang/StringBuilder;"⟩ : MethodName) ∈ cfB := cf_in 1826 (by decide +kernel) rfl
theorem wv_1648 : Cond.code (⟨"java/lang/StringBuilder", "append", "(I)Ljava/lang/StringBuilder;"⟩ : MethodName) prog_27_method_15_code 2 (Option.some (Jvm.ClassFile.FieldType.object "java/lang/StringBuilder")) ∈ cfB := cf_in 1648 (by decide +kernel) rfl
theorem wv_1646 : Cond.instanceMethod (⟨"java/lang/StringBuilder", "append", "(I)Ljava/lang/StringBuilder;"⟩ : MethodName) ∈ cfB := cf_in 1646 (by decide +kernel) rfl
theorem wv_1647 : Cond.selects "java/lang/StringBuilder" (⟨"java/lang/StringBuilder", "append", "(I)Ljava/lang/StringBuilder;"⟩ : MethodName) (⟨"java/lang/StringBuilder", "append", "(I)Ljava/lang/StringBuilder;"⟩ : MethodName) ∈ cfB := cf_in 1647 (by decide +kernel) rfl
def ySc_writeNode : MethodName := ⟨"CellForge$Script", "writeNode", "(LCellForge$Netlist;I)V"⟩
abbrev cSc_writeNode : ByteArray := prog_11_method_5_code
theorem dSc_writeNode_0 : decode cSc_writeNode 0 = .ok (.aload_n 0, 1) := by decide +kernel
theorem dSc_writeNode_1 : decode cSc_writeNode 1 = .ok (.aload_n 1, 1) := by decide +kernel
theorem dSc_writeNode_2 : decode cSc_writeNode 2 = .ok (.iconst 2, 1) := by decide +kernel
theorem dSc_writeNode_3 : decode cSc_writeNode 3 = .ok (.iload_n 2, 1) := by decide +kernel
theorem dSc_writeNode_4 : decode cSc_writeNode 4 = .ok (.imul, 1) := by decide +kernel
theorem dSc_writeNode_5 : decode cSc_writeNode 5 = .ok (.invokevirtual 63, 3) := by decide +kernel
theorem dSc_writeNode_8 : decode cSc_writeNode 8 = .ok (.return_, 1) := by decide +kernel
theorem wv_1820 : Cond.methodLink "CellForge$Script" 63 (⟨"CellForge$Script", "writeLiteral", "(LCellForge$Netlist;I)V"⟩ : MethodName) ∈ cfB := cf_in 1820 (by decide +kernel) rfl
theorem wv_1823 : Cond.code (⟨"CellForge$Script", "writeLiteral", "(LCellForge$Netlist;I)V"⟩ : MethodName) prog_11_method_6_code 4 (Option.none : Option Jvm.ClassFile.FieldType) ∈ cfB := cf_in 1823 (by decide +kernel) rfl
theorem wv_1821 : Cond.instanceMethod (⟨"CellForge$Script", "writeLiteral", "(LCellForge$Netlist;I)V"⟩ : MethodName) ∈ cfB := cf_in 1821 (by decide +kernel) rfl
theorem wv_1822 : Cond.selects "CellForge$Script" (⟨"CellForge$Script", "writeLiteral", "(LCellForge$Netlist;I)V"⟩ : MethodName) (⟨"CellForge$Script", "writeLiteral", "(LCellForge$Netlist;I)V"⟩ : MethodName) ∈ cfB := cf_in 1822 (by decide +kernel) rfl
def yCv_writeRows : MethodName := ⟨"CellForge$Cover", "writeRows", "(LCellForge$Script;II)V"⟩
abbrev cCv_writeRows : ByteArray := prog_3_method_9_code
theorem dCv_writeRows_0 : decode cCv_writeRows 0 = .ok (.iconst 0, 1) := by decide +kernel
theorem dCv_writeRows_1 : decode cCv_writeRows 1 = .ok (.istore_n 3, 1) := by decide +kernel
theorem dCv_writeRows_2 : decode cCv_writeRows 2 = .ok (.iload_n 3, 1) := by decide +kernel
theorem dCv_writeRows_3 : decode cCv_writeRows 3 = .ok (.iconst 1, 1) := by decide +kernel
theorem dCv_writeRows_4 : decode cCv_writeRows 4 = .ok (.iload_n 2, 1) := by decide +kernel
theorem dCv_writeRows_5 : decode cCv_writeRows 5 = .ok (.ishl, 1) := by decide +kernel
theorem dCv_writeRows_6 : decode cCv_writeRows 6 = .ok (.if_icmp .ge 69, 3) := by decide +kernel
theorem dCv_writeRows_9 : decode cCv_writeRows 9 = .ok (.iload_n 1, 1) := by decide +kernel
theorem dCv_writeRows_10 : decode cCv_writeRows 10 = .ok (.iload_n 3, 1) := by decide +kernel
theorem dCv_writeRows_11 : decode cCv_writeRows 11 = .ok (.iushr, 1) := by decide +kernel
theorem dCv_writeRows_12 : decode cCv_writeRows 12 = .ok (.iconst 1, 1) := by decide +kernel
theorem dCv_writeRows_13 : decode cCv_writeRows 13 = .ok (.iand, 1) := by decide +kernel
theorem dCv_writeRows_14 : decode cCv_writeRows 14 = .ok (.ifCond .ne 6, 3) := by decide +kernel
theorem dCv_writeRows_17 : decode cCv_writeRows 17 = .ok (.goto 52, 3) := by decide +kernel
theorem dCv_writeRows_20 : decode cCv_writeRows 20 = .ok (.iconst 0, 1) := by decide +kernel
theorem dCv_writeRows_21 : decode cCv_writeRows 21 = .ok (.istore 4, 2) := by decide +kernel
theorem dCv_writeRows_23 : decode cCv_writeRows 23 = .ok (.iload 4, 2) := by decide +kernel
theorem dCv_writeRows_25 : decode cCv_writeRows 25 = .ok (.iload_n 2, 1) := by decide +kernel
theorem dCv_writeRows_26 : decode cCv_writeRows 26 = .ok (.if_icmp .ge 33, 3) := by decide +kernel
theorem dCv_writeRows_29 : decode cCv_writeRows 29 = .ok (.aload_n 0, 1) := by decide +kernel
theorem dCv_writeRows_30 : decode cCv_writeRows 30 = .ok (.getfield 138, 3) := by decide +kernel
theorem dCv_writeRows_33 : decode cCv_writeRows 33 = .ok (.iload_n 3, 1) := by decide +kernel
theorem dCv_writeRows_34 : decode cCv_writeRows 34 = .ok (.iload 4, 2) := by decide +kernel
theorem dCv_writeRows_36 : decode cCv_writeRows 36 = .ok (.ishr, 1) := by decide +kernel
theorem dCv_writeRows_37 : decode cCv_writeRows 37 = .ok (.iconst 1, 1) := by decide +kernel
theorem dCv_writeRows_38 : decode cCv_writeRows 38 = .ok (.iand, 1) := by decide +kernel
theorem dCv_writeRows_39 : decode cCv_writeRows 39 = .ok (.ifCond .ne 8, 3) := by decide +kernel
theorem dCv_writeRows_42 : decode cCv_writeRows 42 = .ok (.bipush 48, 2) := by decide +kernel
theorem dCv_writeRows_44 : decode cCv_writeRows 44 = .ok (.goto 5, 3) := by decide +kernel
theorem dCv_writeRows_47 : decode cCv_writeRows 47 = .ok (.bipush 49, 2) := by decide +kernel
theorem dCv_writeRows_49 : decode cCv_writeRows 49 = .ok (.invokevirtual 154, 3) := by decide +kernel
theorem dCv_writeRows_52 : decode cCv_writeRows 52 = .ok (.pop, 1) := by decide +kernel
theorem dCv_writeRows_53 : decode cCv_writeRows 53 = .ok (.iinc 4 1, 3) := by decide +kernel
theorem dCv_writeRows_56 : decode cCv_writeRows 56 = .ok (.goto (-33), 3) := by decide +kernel
theorem dCv_writeRows_59 : decode cCv_writeRows 59 = .ok (.aload_n 0, 1) := by decide +kernel
theorem dCv_writeRows_60 : decode cCv_writeRows 60 = .ok (.getfield 138, 3) := by decide +kernel
theorem dCv_writeRows_63 : decode cCv_writeRows 63 = .ok (.ldc 168, 2) := by decide +kernel
theorem dCv_writeRows_65 : decode cCv_writeRows 65 = .ok (.invokevirtual 144, 3) := by decide +kernel
theorem dCv_writeRows_68 : decode cCv_writeRows 68 = .ok (.pop, 1) := by decide +kernel
theorem dCv_writeRows_69 : decode cCv_writeRows 69 = .ok (.iinc 3 1, 3) := by decide +kernel
theorem dCv_writeRows_72 : decode cCv_writeRows 72 = .ok (.goto (-70), 3) := by decide +kernel
theorem dCv_writeRows_75 : decode cCv_writeRows 75 = .ok (.return_, 1) := by decide +kernel
theorem wv_1827 : Cond.methodLink "CellForge$Cover" 154 (⟨"java/lang/StringBuilder", "append", "(C)Ljava/lang/StringBuilder;"⟩ : MethodName) ∈ cfB := cf_in 1827 (by decide +kernel) rfl
theorem wv_470 : Cond.fieldLink "CellForge$Cover" 138 "CellForge$Script" "signs" "Ljava/lang/StringBuilder;" ∈ cfB := cf_in 470 (by decide +kernel) rfl
theorem wv_1815 : Cond.methodLink "CellForge$Cover" 144 (⟨"java/lang/StringBuilder", "append", "(Ljava/lang/String;)Ljava/lang/StringBuilder;"⟩ : MethodName) ∈ cfB := cf_in 1815 (by decide +kernel) rfl
def ySc_writeResult : MethodName := ⟨"CellForge$Script", "writeResult", "(LCellForge$Netlist;IIZ)V"⟩
abbrev cSc_writeResult : ByteArray := prog_11_method_7_code
theorem dSc_writeResult_0 : decode cSc_writeResult 0 = .ok (.iload_n 3, 1) := by decide +kernel
theorem dSc_writeResult_1 : decode cSc_writeResult 1 = .ok (.iconst 2, 1) := by decide +kernel
theorem dSc_writeResult_2 : decode cSc_writeResult 2 = .ok (.if_icmp .ge 7, 3) := by decide +kernel
theorem dSc_writeResult_5 : decode cSc_writeResult 5 = .ok (.iconst 1, 1) := by decide +kernel
theorem dSc_writeResult_6 : decode cSc_writeResult 6 = .ok (.goto 4, 3) := by decide +kernel
theorem dSc_writeResult_9 : decode cSc_writeResult 9 = .ok (.iconst 0, 1) := by decide +kernel
theorem dSc_writeResult_10 : decode cSc_writeResult 10 = .ok (.istore 5, 2) := by decide +kernel
theorem dSc_writeResult_12 : decode cSc_writeResult 12 = .ok (.aload_n 0, 1) := by decide +kernel
theorem dSc_writeResult_13 : decode cSc_writeResult 13 = .ok (.getfield 12, 3) := by decide +kernel
theorem dSc_writeResult_16 : decode cSc_writeResult 16 = .ok (.ldc 74, 2) := by decide +kernel
theorem dSc_writeResult_18 : decode cSc_writeResult 18 = .ok (.invokevirtual 32, 3) := by decide +kernel
theorem dSc_writeResult_21 : decode cSc_writeResult 21 = .ok (.pop, 1) := by decide +kernel
theorem dSc_writeResult_22 : decode cSc_writeResult 22 = .ok (.iload 5, 2) := by decide +kernel
theorem dSc_writeResult_24 : decode cSc_writeResult 24 = .ok (.ifCond .ne 9, 3) := by decide +kernel
theorem dSc_writeResult_27 : decode cSc_writeResult 27 = .ok (.aload_n 0, 1) := by decide +kernel
theorem dSc_writeResult_28 : decode cSc_writeResult 28 = .ok (.aload_n 1, 1) := by decide +kernel
theorem dSc_writeResult_29 : decode cSc_writeResult 29 = .ok (.iload_n 3, 1) := by decide +kernel
theorem dSc_writeResult_30 : decode cSc_writeResult 30 = .ok (.invokevirtual 63, 3) := by decide +kernel
theorem dSc_writeResult_33 : decode cSc_writeResult 33 = .ok (.aload_n 0, 1) := by decide +kernel
theorem dSc_writeResult_34 : decode cSc_writeResult 34 = .ok (.aload_n 1, 1) := by decide +kernel
theorem dSc_writeResult_35 : decode cSc_writeResult 35 = .ok (.getfield 55, 3) := by decide +kernel
theorem dSc_writeResult_38 : decode cSc_writeResult 38 = .ok (.iload_n 2, 1) := by decide +kernel
theorem dSc_writeResult_39 : decode cSc_writeResult 39 = .ok (.laload, 1) := by decide +kernel
theorem dSc_writeResult_40 : decode cSc_writeResult 40 = .ok (.invokevirtual 46, 3) := by decide +kernel
theorem dSc_writeResult_43 : decode cSc_writeResult 43 = .ok (.aload_n 0, 1) := by decide +kernel
theorem dSc_writeResult_44 : decode cSc_writeResult 44 = .ok (.getfield 12, 3) := by decide +kernel
theorem dSc_writeResult_47 : decode cSc_writeResult 47 = .ok (.bipush 10, 2) := by decide +kernel
theorem dSc_writeResult_49 : decode cSc_writeResult 49 = .ok (.invokevirtual 58, 3) := by decide +kernel
theorem dSc_writeResult_52 : decode cSc_writeResult 52 = .ok (.pop, 1) := by decide +kernel
theorem dSc_writeResult_53 : decode cSc_writeResult 53 = .ok (.iload 5, 2) := by decide +kernel
theorem dSc_writeResult_55 : decode cSc_writeResult 55 = .ok (.ifCond .ne 26, 3) := by decide +kernel
theorem dSc_writeResult_58 : decode cSc_writeResult 58 = .ok (.aload_n 0, 1) := by decide +kernel
theorem dSc_writeResult_59 : decode cSc_writeResult 59 = .ok (.getfield 12, 3) := by decide +kernel
theorem dSc_writeResult_62 : decode cSc_writeResult 62 = .ok (.iload 4, 2) := by decide +kernel
theorem dSc_writeResult_64 : decode cSc_writeResult 64 = .ok (.ifCond .eq 8, 3) := by decide +kernel
theorem dSc_writeResult_67 : decode cSc_writeResult 67 = .ok (.ldc 76, 2) := by decide +kernel
theorem dSc_writeResult_69 : decode cSc_writeResult 69 = .ok (.goto 5, 3) := by decide +kernel
theorem dSc_writeResult_72 : decode cSc_writeResult 72 = .ok (.ldc 78, 2) := by decide +kernel
theorem dSc_writeResult_74 : decode cSc_writeResult 74 = .ok (.invokevirtual 32, 3) := by decide +kernel
theorem dSc_writeResult_77 : decode cSc_writeResult 77 = .ok (.pop, 1) := by decide +kernel
theorem dSc_writeResult_78 : decode cSc_writeResult 78 = .ok (.goto 23, 3) := by decide +kernel
theorem dSc_writeResult_81 : decode cSc_writeResult 81 = .ok (.iload_n 3, 1) := by decide +kernel
theorem dSc_writeResult_82 : decode cSc_writeResult 82 = .ok (.iconst 1, 1) := by decide +kernel
theorem dSc_writeResult_83 : decode cSc_writeResult 83 = .ok (.if_icmp .eq 8, 3) := by decide +kernel
theorem dSc_writeResult_86 : decode cSc_writeResult 86 = .ok (.iload 4, 2) := by decide +kernel
theorem dSc_writeResult_88 : decode cSc_writeResult 88 = .ok (.ifCond .eq 13, 3) := by decide +kernel
theorem dSc_writeResult_91 : decode cSc_writeResult 91 = .ok (.aload_n 0, 1) := by decide +kernel
theorem dSc_writeResult_92 : decode cSc_writeResult 92 = .ok (.getfield 12, 3) := by decide +kernel
theorem dSc_writeResult_95 : decode cSc_writeResult 95 = .ok (.ldc 80, 2) := by decide +kernel
theorem dSc_writeResult_97 : decode cSc_writeResult 97 = .ok (.invokevirtual 32, 3) := by decide +kernel
theorem dSc_writeResult_100 : decode cSc_writeResult 100 = .ok (.pop, 1) := by decide +kernel
theorem dSc_writeResult_101 : decode cSc_writeResult 101 = .ok (.return_, 1) := by decide +kernel
set_option maxRecDepth 100000 in
theorem nAS_appendI_33 (v3 : Int32) (s0 : Int32) (o0 : cf_O) (r : cf_O) (h : fAS_appendI_33 v3 s0 o0 = some r) : phSB o0 ≤ phSB r := by
  have hm : phSB o0 ≤ phSB o0 := Nat.le_refl _
  obtain ⟨o_1, eo_1, h⟩ := op_kx h
  have hm : phSB o0 ≤ phSB o_1 := by rw [eo_1]; exact hm
  obtain rfl := Option.some.inj h
  exact hm
set_option maxRecDepth 100000 in
theorem nAS_appendI_21 (v1 : Int32) (v2 : Int32) (v3 : Int32) (s0 : Int32) (o0 : cf_O) (r : cf_O) (h : fAS_appendI_21 v1 v2 v3 s0 o0 = some r) : phSB o0 ≤ phSB r := by
  have hm : phSB o0 ≤ phSB o0 := Nat.le_refl _
  rcases (Classical.em (s0 = (0 : Int32))) with c_1 | c_1
  · have h := op_t c_1 h
    cases h
  · have h := op_f c_1 h
    obtain ⟨q_2, hq_2, h⟩ := op_b h
    have hm : phSB o0 ≤ phSB q_2.2 := Nat.le_trans hm (nJInteger_getChars_IIAB_SB0 _ _ _ _ hq_2)
    exact Nat.le_trans hm (nAS_appendI_33 _ _ _ _ h)
set_option maxRecDepth 100000 in
theorem nAS_appendI_17 (v1 : Int32) (v2 : Int32) (v3 : Int32) (o0 : cf_O) (r : cf_O) (h : fAS_appendI_17 v1 v2 v3 o0 = some r) : phSB o0 ≤ phSB r := by
  have hm : phSB o0 ≤ phSB o0 := Nat.le_refl _
  obtain ⟨q_1, hq_1, h⟩ := op_b h
  exact Nat.le_trans hm (nAS_appendI_21 _ _ _ _ _ _ h)
set_option maxRecDepth 100000 in
theorem nAS_appendI_10 (v1 : Int32) (v2 : Int32) (s0 : Int32) (s1 : Int32) (o0 : cf_O) (r : cf_O) (h : fAS_appendI_10 v1 v2 s0 s1 o0 = some r) : phSB o0 ≤ phSB r := by
  have hm : phSB o0 ≤ phSB o0 := Nat.le_refl _
  obtain ⟨x_1, ex_1, h⟩ := op_kx h
  obtain ⟨q_2, hq_2, h⟩ := op_b h
  have hm : phSB o0 ≤ phSB q_2 := Nat.le_trans hm (nAS_ensureCapacityInternal _ _ _ hq_2)
  exact Nat.le_trans hm (nAS_appendI_17 _ _ _ _ _ h)
set_option maxRecDepth 100000 in
theorem nAS_appendI_0 (v1 : Int32) (o0 : cf_O) (r : cf_O) (h : fAS_appendI_0 v1 o0 = some r) : phSB o0 ≤ phSB r := by
  have hm : phSB o0 ≤ phSB o0 := Nat.le_refl _
  obtain ⟨q_1, hq_1, h⟩ := op_b h
  exact Nat.le_trans hm (nAS_appendI_10 _ _ _ _ _ _ h)
theorem nAS_appendI (v1 : Int32) (o0 : cf_O) (r : cf_O) (h : fAS_appendI v1 o0 = some r) : phSB o0 ≤ phSB r := nAS_appendI_0  v1 o0 r h
set_option maxHeartbeats 4000000 in
set_option maxRecDepth 100000 in
theorem bAS_appendI_33 {p : Program} {l : Launch} {e : Env} {s : State} {m : MethodId} {below : List Frame} {meth : Method} {c : Code} {A : Nat → Prop} {D : va_G} {K : Nat → ClassId} {h0 : Nat} {os : cf_O} {AR : Array Value} (C : (dc_C p s m AR meth c cAS_appendI 4 (Option.some (Jvm.ClassFile.FieldType.object "java/lang/AbstractStringBuilder")) yAS_appendI ∧ cf_E D K A s s.heap ∧ ∀ q, s.heap.size ≤ q → A q)) (v3 : Int32) (s0 : Int32) (o0 : cf_O) (r : cf_O) (h : fAS_appendI_33 v3 s0 o0 = some r) {a0 : Nat → Nat} {H : Heap} {locs : List Loc} {ls : Array Slot} (hg : phSB os ≤ phSB o0) (hP : va_P D vwCl (wSB K h0 a0 o0) H) (hD : va_D A (wSB K h0 a0 o0)) (hS : va_S A s.heap H locs) (hl : lv_has ls 4 [(0, .ref h0), (3, .int v3)]) : W p l e ({ frames := 4, cells := (gC (phSB os) (phSB r)), slots := (gS (phSB os) (phSB r)), locals := 124 }) s m AR below meth c H locs (gC (phSB os) (phSB o0)) (gS (phSB os) (phSB o0)) (MQ below (va_Qr (fun (_ : Nat → Nat) => True) (fun (u : Nat → Nat) q t => cf_At D A (wSB K h0 u r) t ∧ q = h0) A) AR s (gC (phSB os) (phSB r)) (gS (phSB os) (phSB r)) A) (F0 m 33 ls [.int s0]) := by
  obtain ⟨⟨hx, hb, hr, hts, hown, hlocks, hin, hml⟩, hE, hA⟩ := id C
  have hK := hE.k
  refine lv_pop hx hb dAS_appendI_33 rfl ?_
  refine lv_goto (tgt := 48) hx hb dAS_appendI_34 (by decide) ?_
  refine lv_aload_n hx hb dAS_appendI_48 rfl (lv_at hl 0 rfl) ?_
  refine lv_iload_n hx hb dAS_appendI_49 rfl (lv_at hl 1 rfl) ?_
  refine va_put (D := D) (ci := 13) (v := .int v3) (ty := .int) (C := RSB) (T := TSB) (N := 4) hx hb hts inSB tySB tyokSB nmSB hown hK hP hD hS 0 rfl rfl 3 (by decide) (hts _ wv_457) (fun _ h9 => h9) rfl (by decide +kernel) rfl rfl (Nat.le_of_ble_eq_true rfl) dAS_appendI_50 (fun H locs hP hD hS => ?_)
  have hP : va_P D vwCl (wSB K h0 a0 (fp o0 3 v3)) H := hP
  have hD : va_D A (wSB K h0 a0 (fp o0 3 v3)) := hD
  obtain ⟨o_1, eo_1, h⟩ := op_kx h
  rw [← eo_1] at hP hD
  have hf_2 : phSB o_1 = phSB o0 := by rw [eo_1]; rfl
  refine W.widen (k := (gC (phSB os) (phSB o_1))) (n := (gS (phSB os) (phSB o_1))) (by rw [hf_2]; exact Nat.le_refl _) (by rw [hf_2]; exact Nat.le_refl _) ?_
  have hg : phSB os ≤ phSB o_1 := by rw [hf_2]; exact hg
  refine lv_aload_n hx hb dAS_appendI_53 rfl (lv_at hl 0 rfl) ?_
  obtain rfl := Option.some.inj h
  exact dc_aretG a0 hx hb hr ⟨_, rfl⟩ hlocks hP hD hS dAS_appendI_54
set_option maxHeartbeats 4000000 in
set_option maxRecDepth 100000 in
theorem bAS_appendI_21 {p : Program} {l : Launch} {e : Env} {s : State} {m : MethodId} {below : List Frame} {meth : Method} {c : Code} {A : Nat → Prop} {D : va_G} {K : Nat → ClassId} {h0 : Nat} {os : cf_O} {AR : Array Value} (C : (dc_C p s m AR meth c cAS_appendI 4 (Option.some (Jvm.ClassFile.FieldType.object "java/lang/AbstractStringBuilder")) yAS_appendI ∧ cf_E D K A s s.heap ∧ ∀ q, s.heap.size ≤ q → A q)) (v1 : Int32) (v2 : Int32) (v3 : Int32) (s0 : Int32) (o0 : cf_O) (r : cf_O) (h : fAS_appendI_21 v1 v2 v3 s0 o0 = some r) {a0 : Nat → Nat} {H : Heap} {locs : List Loc} {ls : Array Slot} (hg : phSB os ≤ phSB o0) (hP : va_P D vwCl (wSB K h0 a0 o0) H) (hD : va_D A (wSB K h0 a0 o0)) (hS : va_S A s.heap H locs) (hl : lv_has ls 4 [(0, .ref h0), (1, .int v1), (2, .int v2), (3, .int v3)]) : W p l e ({ frames := 4, cells := (gC (phSB os) (phSB r)), slots := (gS (phSB os) (phSB r)), locals := 124 }) s m AR below meth c H locs (gC (phSB os) (phSB o0)) (gS (phSB os) (phSB o0)) (MQ below (va_Qr (fun (_ : Nat → Nat) => True) (fun (u : Nat → Nat) q t => cf_At D A (wSB K h0 u r) t ∧ q = h0) A) AR s (gC (phSB os) (phSB r)) (gS (phSB os) (phSB r)) A) (F0 m 21 ls [.int s0]) := by
  obtain ⟨⟨hx, hb, hr, hts, hown, hlocks, hin, hml⟩, hE, hA⟩ := id C
  have hK := hE.k
  refine lv_if_eq (tgt := 37) hx hb dAS_appendI_21 (by decide) (fun c_1 => ?_) (fun c_1 => ?_)
  · have h := op_t c_1 h
    refine lv_iload_n hx hb dAS_appendI_37 rfl (lv_at hl 1 rfl) ?_
    refine lv_iload_n hx hb dAS_appendI_38 rfl (lv_at hl 2 rfl) ?_
    refine lv_iload_n hx hb dAS_appendI_39 rfl (lv_at hl 3 rfl) ?_
    refine lv_aload_n hx hb dAS_appendI_40 rfl (lv_at hl 0 rfl) ?_
    refine va_get (D := D) (ci := 13) (v := .ref (a0 0)) (C := RSB) (T := TSB) (N := 4) hx hb hts inSB hown hK hP 0 rfl rfl 0 (by decide) (hts _ wv_453) (fun _ h9 => h9) rfl dAS_appendI_41 ?_
    cases h
  · have h := op_f c_1 h
    refine lv_iload_n hx hb dAS_appendI_24 rfl (lv_at hl 1 rfl) ?_
    refine lv_iload_n hx hb dAS_appendI_25 rfl (lv_at hl 3 rfl) ?_
    refine lv_aload_n hx hb dAS_appendI_26 rfl (lv_at hl 0 rfl) ?_
    refine va_get (D := D) (ci := 13) (v := .ref (a0 0)) (C := RSB) (T := TSB) (N := 4) hx hb hts inSB hown hK hP 0 rfl rfl 0 (by decide) (hts _ wv_453) (fun _ h9 => h9) rfl dAS_appendI_27 ?_
    obtain ⟨q_2, hq_2, h⟩ := op_b h
    have hgr_3 : phSB q_2.2 ≤ phSB r := nAS_appendI_33 _ _ _ _ h
    have hg2_4 : phSB o0 ≤ phSB q_2.2 := nJInteger_getChars_IIAB_SB0 _ _ _ _ hq_2
    refine dc_calli (va_runS (As := [.int v1, .int v3, .ref (a0 0)]) (rest := []) ⟨hx, hb, hml, hown, hts⟩ (mJInteger_getChars_IIAB_SB0 l D K _ v1 v3 h0 a0 o0 _ hq_2) (va_cwS 3 hts (cf_GS wv_1655 wv_1656 wv_186 wv_1657) rfl rfl rfl (by decide +kernel) ⟨Nat.le_of_ble_eq_true rfl, Nat.le_of_ble_eq_true rfl⟩) (dc_preS hE hP hD hS hA) rfl rfl hl.1 rfl (lv_room (Nat.le_of_ble_eq_true rfl)) dAS_appendI_30 ⟨gC_le (Nat.le_trans hg2_4 hgr_3), gS_le (Nat.le_trans hg2_4 hgr_3)⟩) hP hD hS hA (fun r_5 H locs hw_6 hP hD hS => ?_)
    subst r_5
    refine W.widen (k := (gC (phSB os) (phSB q_2.2))) (n := (gS (phSB os) (phSB q_2.2))) (gC_le hg2_4) (gS_le hg2_4) ?_
    have hg : phSB os ≤ phSB q_2.2 := Nat.le_trans hg hg2_4
    exact bAS_appendI_33 C _ _ _ _ h hg hP hD hS (lv_sub hl [0, 3] rfl)
set_option maxHeartbeats 4000000 in
set_option maxRecDepth 100000 in
theorem bAS_appendI_17 {p : Program} {l : Launch} {e : Env} {s : State} {m : MethodId} {below : List Frame} {meth : Method} {c : Code} {A : Nat → Prop} {D : va_G} {K : Nat → ClassId} {h0 : Nat} {os : cf_O} {AR : Array Value} (C : (dc_C p s m AR meth c cAS_appendI 4 (Option.some (Jvm.ClassFile.FieldType.object "java/lang/AbstractStringBuilder")) yAS_appendI ∧ cf_E D K A s s.heap ∧ ∀ q, s.heap.size ≤ q → A q)) (v1 : Int32) (v2 : Int32) (v3 : Int32) (o0 : cf_O) (r : cf_O) (h : fAS_appendI_17 v1 v2 v3 o0 = some r) {a0 : Nat → Nat} {H : Heap} {locs : List Loc} {ls : Array Slot} (hg : phSB os ≤ phSB o0) (hP : va_P D vwCl (wSB K h0 a0 o0) H) (hD : va_D A (wSB K h0 a0 o0)) (hS : va_S A s.heap H locs) (hl : lv_has ls 4 [(0, .ref h0), (1, .int v1), (2, .int v2), (3, .int v3)]) : W p l e ({ frames := 4, cells := (gC (phSB os) (phSB r)), slots := (gS (phSB os) (phSB r)), locals := 124 }) s m AR below meth c H locs (gC (phSB os) (phSB o0)) (gS (phSB os) (phSB o0)) (MQ below (va_Qr (fun (_ : Nat → Nat) => True) (fun (u : Nat → Nat) q t => cf_At D A (wSB K h0 u r) t ∧ q = h0) A) AR s (gC (phSB os) (phSB r)) (gS (phSB os) (phSB r)) A) (F0 m 17 ls []) := by
  obtain ⟨⟨hx, hb, hr, hts, hown, hlocks, hin, hml⟩, hE, hA⟩ := id C
  have hK := hE.k
  refine lv_aload_n hx hb dAS_appendI_17 rfl (lv_at hl 0 rfl) ?_
  obtain ⟨q_1, hq_1, h⟩ := op_b h
  have hgr_2 : phSB o0 ≤ phSB r := nAS_appendI_21 _ _ _ _ _ _ h
  refine dc_calli (va_runU (As := []) (rest := []) ⟨hx, hb, hml, hown, hts⟩ (mAS_isLatin1 l D K _ h0 a0 o0 _ hq_1) (cf_cwU (C := "java/lang/StringBuilder") 0 hts (cf_G1 wv_1594) rfl rfl rfl (hts _ wv_166) (hts _ wv_1590) (hts _ wv_1592) (hts _ wv_1593) (hts _ wv_1591) (by decide +kernel) ⟨Nat.le_of_ble_eq_true rfl, Nat.le_of_ble_eq_true rfl⟩) (dc_preV hE hP hD hS hA rfl 0 rfl) rfl rfl hl.1 rfl (lv_room (Nat.le_of_ble_eq_true rfl)) dAS_appendI_18 ⟨gC_le hgr_2, gS_le hgr_2⟩) hP hD hS hA (fun r_4 H locs hw_5 hP hD hS => ?_)
  subst r_4
  refine W.widen (k := (gC (phSB os) (phSB o0))) (n := (gS (phSB os) (phSB o0))) (Nat.le_refl _) (Nat.le_refl _) ?_
  exact bAS_appendI_21 C _ _ _ _ _ _ h hg hP hD hS (lv_sub hl [0, 1, 2, 3] rfl)
set_option maxHeartbeats 4000000 in
set_option maxRecDepth 100000 in
theorem bAS_appendI_10 {p : Program} {l : Launch} {e : Env} {s : State} {m : MethodId} {below : List Frame} {meth : Method} {c : Code} {A : Nat → Prop} {D : va_G} {K : Nat → ClassId} {h0 : Nat} {os : cf_O} {AR : Array Value} (C : (dc_C p s m AR meth c cAS_appendI 4 (Option.some (Jvm.ClassFile.FieldType.object "java/lang/AbstractStringBuilder")) yAS_appendI ∧ cf_E D K A s s.heap ∧ ∀ q, s.heap.size ≤ q → A q)) (v1 : Int32) (v2 : Int32) (s0 : Int32) (s1 : Int32) (o0 : cf_O) (r : cf_O) (h : fAS_appendI_10 v1 v2 s0 s1 o0 = some r) {a0 : Nat → Nat} {H : Heap} {locs : List Loc} {ls : Array Slot} (hg : phSB os ≤ phSB o0) (hP : va_P D vwCl (wSB K h0 a0 o0) H) (hD : va_D A (wSB K h0 a0 o0)) (hS : va_S A s.heap H locs) (hl : lv_has ls 4 [(0, .ref h0), (1, .int v1), (2, .int v2)]) : W p l e ({ frames := 4, cells := (gC (phSB os) (phSB r)), slots := (gS (phSB os) (phSB r)), locals := 124 }) s m AR below meth c H locs (gC (phSB os) (phSB o0)) (gS (phSB os) (phSB o0)) (MQ below (va_Qr (fun (_ : Nat → Nat) => True) (fun (u : Nat → Nat) q t => cf_At D A (wSB K h0 u r) t ∧ q = h0) A) AR s (gC (phSB os) (phSB r)) (gS (phSB os) (phSB r)) A) (F0 m 10 ls [.int s1, .int s0]) := by
  obtain ⟨⟨hx, hb, hr, hts, hown, hlocks, hin, hml⟩, hE, hA⟩ := id C
  have hK := hE.k
  refine lv_iadd hx hb dAS_appendI_10 ?_
  refine lv_topi (fun x_1 ex_1 => ?_)
  have h := op_ks ex_1 h
  refine lv_istore_n (lv' := [(3, .int x_1), (0, .ref h0), (1, .int v1), (2, .int v2)]) hx hb dAS_appendI_11 rfl hl (by decide) rfl (fun ls hl => ?_)
  refine lv_aload_n hx hb dAS_appendI_12 rfl (lv_at hl 1 rfl) ?_
  refine lv_iload_n hx hb dAS_appendI_13 rfl (lv_at hl 0 rfl) ?_
  obtain ⟨q_2, hq_2, h⟩ := op_b h
  have hgr_3 : phSB q_2 ≤ phSB r := nAS_appendI_17 _ _ _ _ _ h
  have hg2_4 : phSB o0 ≤ phSB q_2 := nAS_ensureCapacityInternal _ _ _ hq_2
  refine cf_callv (wc := wSB K h0 a0 o0) (wr := []) (va_runU (As := [.int x_1]) (rest := []) ⟨hx, hb, hml, hown, hts⟩ (mAS_ensureCapacityInternal l D K _ x_1 h0 a0 o0 _ hq_2) (cf_cwU (C := "java/lang/StringBuilder") 1 hts (cf_G1 wv_1568) rfl rfl rfl (hts _ wv_166) (hts _ wv_1565) (hts _ wv_2790) (va_Nw.use rfl (hE.n 29 rfl)) (hts _ wv_1567) (by decide +kernel) ⟨Nat.le_of_ble_eq_true rfl, Nat.le_of_ble_eq_true rfl⟩) (cf_preV (wc := wSB K h0 a0 o0) hE hP hD hS hA rfl 0 rfl [0, 1] rfl (by decide +kernel)) rfl rfl hl.1 rfl (lv_room (Nat.le_of_ble_eq_true rfl)) dAS_appendI_14 ⟨Nat.le_trans (gC_add hg hg2_4) (gC_le hgr_3), Nat.le_trans (gS_add hg hg2_4) (gS_le hgr_3)⟩) hP hD hS hA [0, 1] [] rfl rfl (by decide +kernel) (by decide +kernel) (fun a0_6 H locs hw_5 hP hD hS => ?_)
  have hP : va_P D vwCl (wSB K h0 a0_6 q_2) H := hP.sub [0, 1] rfl
  have hD : va_D A (wSB K h0 a0_6 q_2) := hD.sub [0, 1] (by decide +kernel) rfl
  refine W.widen (k := (gC (phSB os) (phSB q_2))) (n := (gS (phSB os) (phSB q_2))) (gC_add hg hg2_4) (gS_add hg hg2_4) ?_
  have hg : phSB os ≤ phSB q_2 := Nat.le_trans hg hg2_4
  exact bAS_appendI_17 C _ _ _ _ _ h hg hP hD hS (lv_sub hl [1, 2, 3, 0] rfl)
set_option maxHeartbeats 4000000 in
set_option maxRecDepth 100000 in
theorem bAS_appendI_0 {p : Program} {l : Launch} {e : Env} {s : State} {m : MethodId} {below : List Frame} {meth : Method} {c : Code} {A : Nat → Prop} {D : va_G} {K : Nat → ClassId} {h0 : Nat} {os : cf_O} {AR : Array Value} (C : (dc_C p s m AR meth c cAS_appendI 4 (Option.some (Jvm.ClassFile.FieldType.object "java/lang/AbstractStringBuilder")) yAS_appendI ∧ cf_E D K A s s.heap ∧ ∀ q, s.heap.size ≤ q → A q)) (v1 : Int32) (o0 : cf_O) (r : cf_O) (h : fAS_appendI_0 v1 o0 = some r) {a0 : Nat → Nat} {H : Heap} {locs : List Loc} {ls : Array Slot} (hg : phSB os ≤ phSB o0) (hP : va_P D vwCl (wSB K h0 a0 o0) H) (hD : va_D A (wSB K h0 a0 o0)) (hS : va_S A s.heap H locs) (hl : lv_has ls 4 [(0, .ref h0), (1, .int v1)]) : W p l e ({ frames := 4, cells := (gC (phSB os) (phSB r)), slots := (gS (phSB os) (phSB r)), locals := 124 }) s m AR below meth c H locs (gC (phSB os) (phSB o0)) (gS (phSB os) (phSB o0)) (MQ below (va_Qr (fun (_ : Nat → Nat) => True) (fun (u : Nat → Nat) q t => cf_At D A (wSB K h0 u r) t ∧ q = h0) A) AR s (gC (phSB os) (phSB r)) (gS (phSB os) (phSB r)) A) (F0 m 0 ls []) := by
  obtain ⟨⟨hx, hb, hr, hts, hown, hlocks, hin, hml⟩, hE, hA⟩ := id C
  have hK := hE.k
  refine lv_aload_n hx hb dAS_appendI_0 rfl (lv_at hl 0 rfl) ?_
  refine va_get (D := D) (ci := 13) (v := .int (o0.1 3)) (C := RSB) (T := TSB) (N := 4) hx hb hts inSB hown hK hP 0 rfl rfl 3 (by decide) (hts _ wv_457) (fun _ h9 => h9) rfl dAS_appendI_1 ?_
  refine lv_istore_n (lv' := [(2, .int (o0.1 3)), (0, .ref h0), (1, .int v1)]) hx hb dAS_appendI_4 rfl hl (by decide) rfl (fun ls hl => ?_)
  refine lv_iload_n hx hb dAS_appendI_5 rfl (lv_at hl 0 rfl) ?_
  refine lv_iload_n hx hb dAS_appendI_6 rfl (lv_at hl 2 rfl) ?_
  obtain ⟨q_1, hq_1, h⟩ := op_b h
  have hgr_2 : phSB o0 ≤ phSB r := nAS_appendI_10 _ _ _ _ _ _ h
  refine cf_pcalli (va_runS (As := [.int v1]) (rest := [.int (o0.1 3)]) ⟨hx, hb, hml, hown, hts⟩ (mJInteger_stringSize_I l v1 _ hq_1) (va_cwS 1 hts (cf_GS wv_1652 wv_1653 wv_186 wv_1654) rfl rfl rfl (by decide +kernel) ⟨Nat.le_of_ble_eq_true rfl, Nat.le_of_ble_eq_true rfl⟩) preEq rfl rfl hl.1 rfl (lv_room (Nat.le_of_ble_eq_true rfl)) dAS_appendI_7 ⟨gC_le hgr_2, gS_le hgr_2⟩) (fun r_4 hw_5 => ?_)
  subst r_4
  refine W.widen (k := (gC (phSB os) (phSB o0))) (n := (gS (phSB os) (phSB o0))) (Nat.le_refl _) (Nat.le_refl _) ?_
  exact bAS_appendI_10 C _ _ _ _ _ _ h hg hP hD hS (lv_sub hl [1, 2, 0] rfl)
set_option maxRecDepth 100000 in
theorem mAS_appendI (l : Launch) (D : va_G) (K : Nat → ClassId) (sz : Nat) (v1 : Int32) (h0 : Nat) (a0 : Nat → Nat) (o0 : cf_O) (r : cf_O) (h : fAS_appendI v1 o0 = some r) : Met l yAS_appendI (Cond.code yAS_appendI cAS_appendI 4 (Option.some (Jvm.ClassFile.FieldType.object "java/lang/AbstractStringBuilder")) :: cfB) ({ frames := 4, cells := (gC (phSB o0) (phSB r)), slots := (gS (phSB o0) (phSB r)), locals := 124 }) (va_Pc [.ref h0, .int v1] (cf_Pre D K sz (wSB K h0 a0 o0))) (va_Qr (fun (_ : Nat → Nat) => True) (fun (u : Nat → Nat) q t => cf_At D (va_A (wSB K h0 a0 o0) sz) (wSB K h0 u r) t ∧ q = h0) (va_A (wSB K h0 a0 o0) sz)) (gC (phSB o0) (phSB r)) (gS (phSB o0) (phSB r)) (va_A (wSB K h0 a0 o0) sz) := by
  refine cf_ofW (y := yAS_appendI) (As := [.ref h0, .int v1]) (WS := wSB K h0 a0 o0) (maxL := 4) (fun A => (va_Qr (fun (_ : Nat → Nat) => True) (fun (u : Nat → Nat) q t => cf_At D A (wSB K h0 u r) t ∧ q = h0) A)) (by decide) (Nat.le_of_ble_eq_true rfl) ?_
  intro p e s m below meth c A ls En hsz hA hP hD hE hS hl
  have C : (dc_C p s m (([.ref h0, .int v1] : List Value).toArray) meth c cAS_appendI 4 (Option.some (Jvm.ClassFile.FieldType.object "java/lang/AbstractStringBuilder")) yAS_appendI ∧ cf_E D K A s s.heap ∧ ∀ q, s.heap.size ≤ q → A q) := ⟨En, hE, hA⟩
  refine W.widen (k := gC (phSB o0) (phSB o0)) (n := gS (phSB o0) (phSB o0)) (Nat.zero_le _) (Nat.zero_le _) ?_
  exact bAS_appendI_0 C v1 o0 r h (Nat.le_refl _) hP hD hS hl
set_option maxRecDepth 100000 in
theorem nSB_appendI_5 (o0 : cf_O) (r : cf_O) (h : fSB_appendI_5 o0 = some r) : phSB o0 ≤ phSB r := by
  have hm : phSB o0 ≤ phSB o0 := Nat.le_refl _
  obtain rfl := Option.some.inj h
  exact hm
set_option maxRecDepth 100000 in
theorem nSB_appendI_0 (v1 : Int32) (o0 : cf_O) (r : cf_O) (h : fSB_appendI_0 v1 o0 = some r) : phSB o0 ≤ phSB r := by
  have hm : phSB o0 ≤ phSB o0 := Nat.le_refl _
  obtain ⟨q_1, hq_1, h⟩ := op_b h
  have hm : phSB o0 ≤ phSB q_1 := Nat.le_trans hm (nAS_appendI _ _ _ hq_1)
  exact Nat.le_trans hm (nSB_appendI_5 _ _ h)
theorem nSB_appendI (v1 : Int32) (o0 : cf_O) (r : cf_O) (h : fSB_appendI v1 o0 = some r) : phSB o0 ≤ phSB r := nSB_appendI_0  v1 o0 r h
set_option maxHeartbeats 4000000 in
set_option maxRecDepth 100000 in
theorem bSB_appendI_5 {p : Program} {l : Launch} {e : Env} {s : State} {m : MethodId} {below : List Frame} {meth : Method} {c : Code} {A : Nat → Prop} {D : va_G} {K : Nat → ClassId} {h0 : Nat} {os : cf_O} {AR : Array Value} (C : (dc_C p s m AR meth c cSB_appendI 2 (Option.some (Jvm.ClassFile.FieldType.object "java/lang/StringBuilder")) ySB_appendI ∧ cf_E D K A s s.heap ∧ ∀ q, s.heap.size ≤ q → A q)) (o0 : cf_O) (r : cf_O) (h : fSB_appendI_5 o0 = some r) {a0 : Nat → Nat} {H : Heap} {locs : List Loc} {ls : Array Slot} (hg : phSB os ≤ phSB o0) (hP : va_P D vwCl (wSB K h0 a0 o0) H) (hD : va_D A (wSB K h0 a0 o0)) (hS : va_S A s.heap H locs) (hl : lv_has ls 2 [(0, .ref h0)]) : W p l e ({ frames := 5, cells := (gC (phSB os) (phSB r)), slots := (gS (phSB os) (phSB r)), locals := 147 }) s m AR below meth c H locs (gC (phSB os) (phSB o0)) (gS (phSB os) (phSB o0)) (MQ below (va_Qr (fun (_ : Nat → Nat) => True) (fun (u : Nat → Nat) q t => cf_At D A (wSB K h0 u r) t ∧ q = h0) A) AR s (gC (phSB os) (phSB r)) (gS (phSB os) (phSB r)) A) (F0 m 5 ls [.ref h0]) := by
  obtain ⟨⟨hx, hb, hr, hts, hown, hlocks, hin, hml⟩, hE, hA⟩ := id C
  have hK := hE.k
  refine lv_pop hx hb dSB_appendI_5 rfl ?_
  refine lv_aload_n hx hb dSB_appendI_6 rfl (lv_at hl 0 rfl) ?_
  obtain rfl := Option.some.inj h
  exact dc_aretG a0 hx hb hr ⟨_, rfl⟩ hlocks hP hD hS dSB_appendI_7
set_option maxHeartbeats 4000000 in
set_option maxRecDepth 100000 in
theorem bSB_appendI_0 {p : Program} {l : Launch} {e : Env} {s : State} {m : MethodId} {below : List Frame} {meth : Method} {c : Code} {A : Nat → Prop} {D : va_G} {K : Nat → ClassId} {h0 : Nat} {os : cf_O} {AR : Array Value} (C : (dc_C p s m AR meth c cSB_appendI 2 (Option.some (Jvm.ClassFile.FieldType.object "java/lang/StringBuilder")) ySB_appendI ∧ cf_E D K A s s.heap ∧ ∀ q, s.heap.size ≤ q → A q)) (v1 : Int32) (o0 : cf_O) (r : cf_O) (h : fSB_appendI_0 v1 o0 = some r) {a0 : Nat → Nat} {H : Heap} {locs : List Loc} {ls : Array Slot} (hg : phSB os ≤ phSB o0) (hP : va_P D vwCl (wSB K h0 a0 o0) H) (hD : va_D A (wSB K h0 a0 o0)) (hS : va_S A s.heap H locs) (hl : lv_has ls 2 [(0, .ref h0), (1, .int v1)]) : W p l e ({ frames := 5, cells := (gC (phSB os) (phSB r)), slots := (gS (phSB os) (phSB r)), locals := 147 }) s m AR below meth c H locs (gC (phSB os) (phSB o0)) (gS (phSB os) (phSB o0)) (MQ below (va_Qr (fun (_ : Nat → Nat) => True) (fun (u : Nat → Nat) q t => cf_At D A (wSB K h0 u r) t ∧ q = h0) A) AR s (gC (phSB os) (phSB r)) (gS (phSB os) (phSB r)) A) (F0 m 0 ls []) := by
  obtain ⟨⟨hx, hb, hr, hts, hown, hlocks, hin, hml⟩, hE, hA⟩ := id C
  have hK := hE.k
  refine lv_aload_n hx hb dSB_appendI_0 rfl (lv_at hl 0 rfl) ?_
  refine lv_iload_n hx hb dSB_appendI_1 rfl (lv_at hl 1 rfl) ?_
  obtain ⟨q_1, hq_1, h⟩ := op_b h
  have hgr_2 : phSB q_1 ≤ phSB r := nSB_appendI_5 _ _ h
  have hg2_3 : phSB o0 ≤ phSB q_1 := nAS_appendI _ _ _ hq_1
  refine cf_callR (wc := wSB K h0 a0 o0) (wr := []) (va_runSU (hK.1 13 _ rfl).2 (As := [.int v1]) (rest := []) ⟨hx, hb, hml, hown, hts⟩ (mAS_appendI l D K _ v1 h0 a0 o0 _ hq_1) (cf_cwSU 1 hts (cf_G1 wv_1651) rfl rfl rfl (hts _ wv_1649) (hts _ wv_2795) (hts _ wv_466) (hts _ wv_1650) (hts _ wv_166) (by decide +kernel) ⟨Nat.le_of_ble_eq_true rfl, Nat.le_of_ble_eq_true rfl⟩) (cf_preV (wc := wSB K h0 a0 o0) hE hP hD hS hA rfl 0 rfl [0, 1] rfl (by decide +kernel)) rfl rfl hl.1 rfl (lv_room (Nat.le_of_ble_eq_true rfl)) dSB_appendI_2 ⟨Nat.le_trans (gC_add hg hg2_3) (gC_le hgr_2), Nat.le_trans (gS_add hg hg2_3) (gS_le hgr_2)⟩) hP hD hS hA [0, 1] [] rfl rfl (by decide +kernel) (by decide +kernel) (fun a0_5 H locs hw_4 hP hD hS => ?_)
  have hP : va_P D vwCl (wSB K h0 a0_5 q_1) H := hP.sub [0, 1] rfl
  have hD : va_D A (wSB K h0 a0_5 q_1) := hD.sub [0, 1] (by decide +kernel) rfl
  refine W.widen (k := (gC (phSB os) (phSB q_1))) (n := (gS (phSB os) (phSB q_1))) (gC_add hg hg2_3) (gS_add hg hg2_3) ?_
  have hg : phSB os ≤ phSB q_1 := Nat.le_trans hg hg2_3
  exact bSB_appendI_5 C _ _ h hg hP hD hS (lv_sub hl [0] rfl)
set_option maxRecDepth 100000 in
theorem mSB_appendI (l : Launch) (D : va_G) (K : Nat → ClassId) (sz : Nat) (v1 : Int32) (h0 : Nat) (a0 : Nat → Nat) (o0 : cf_O) (r : cf_O) (h : fSB_appendI v1 o0 = some r) : Met l ySB_appendI (Cond.code ySB_appendI cSB_appendI 2 (Option.some (Jvm.ClassFile.FieldType.object "java/lang/StringBuilder")) :: cfB) ({ frames := 5, cells := (gC (phSB o0) (phSB r)), slots := (gS (phSB o0) (phSB r)), locals := 147 }) (va_Pc [.ref h0, .int v1] (cf_Pre D K sz (wSB K h0 a0 o0))) (va_Qr (fun (_ : Nat → Nat) => True) (fun (u : Nat → Nat) q t => cf_At D (va_A (wSB K h0 a0 o0) sz) (wSB K h0 u r) t ∧ q = h0) (va_A (wSB K h0 a0 o0) sz)) (gC (phSB o0) (phSB r)) (gS (phSB o0) (phSB r)) (va_A (wSB K h0 a0 o0) sz) := by
  refine cf_ofW (y := ySB_appendI) (As := [.ref h0, .int v1]) (WS := wSB K h0 a0 o0) (maxL := 2) (fun A => (va_Qr (fun (_ : Nat → Nat) => True) (fun (u : Nat → Nat) q t => cf_At D A (wSB K h0 u r) t ∧ q = h0) A)) (by decide) (Nat.le_of_ble_eq_true rfl) ?_
  intro p e s m below meth c A ls En hsz hA hP hD hE hS hl
  have C : (dc_C p s m (([.ref h0, .int v1] : List Value).toArray) meth c cSB_appendI 2 (Option.some (Jvm.ClassFile.FieldType.object "java/lang/StringBuilder")) ySB_appendI ∧ cf_E D K A s s.heap ∧ ∀ q, s.heap.size ≤ q → A q) := ⟨En, hE, hA⟩
  refine W.widen (k := gC (phSB o0) (phSB o0)) (n := gS (phSB o0) (phSB o0)) (Nat.zero_le _) (Nat.zero_le _) ?_
  exact bSB_appendI_0 C v1 o0 r h (Nat.le_refl _) hP hD hS hl
set_option maxRecDepth 100000 in
theorem nSc_writeLiteral_65 (o0 : cf_O) (o1 : cf_O) (o2 : cf_O) (r : cf_O) (h : fSc_writeLiteral_65 o0 o1 o2 = some r) : phSB o2 ≤ phSB r := by
  have hm : phSB o2 ≤ phSB o2 := Nat.le_refl _
  obtain rfl := Option.some.inj h
  exact hm
set_option maxRecDepth 100000 in
theorem nSc_writeLiteral_56 (v3 : Int32) (o0 : cf_O) (o1 : cf_O) (o2 : cf_O) (r : cf_O) (h : fSc_writeLiteral_56 v3 o0 o1 o2 = some r) : phSB o2 ≤ phSB r := by
  have hm : phSB o2 ≤ phSB o2 := Nat.le_refl _
  obtain ⟨q_1, hq_1, h⟩ := op_b h
  have hm : phSB o2 ≤ phSB q_1 := Nat.le_trans hm (nSB_appendI _ _ _ hq_1)
  exact Nat.le_trans hm (nSc_writeLiteral_65 _ _ _ _ h)
set_option maxRecDepth 100000 in
theorem nSc_writeLiteral_36 (v2 : Int32) (v3 : Int32) (o0 : cf_O) (o1 : cf_O) (o2 : cf_O) (r : cf_O) (h : fSc_writeLiteral_36 v2 v3 o0 o1 o2 = some r) : phSB o2 ≤ phSB r := by
  have hm : phSB o2 ≤ phSB o2 := Nat.le_refl _
  obtain ⟨x_1, ex_1, h⟩ := op_kx h
  rcases (Classical.em (x_1 = (0 : Int32))).symm with c_2 | c_2
  · have h := op_f c_2 h
    obtain ⟨q_3, hq_3, h⟩ := op_b h
    have hm : phSB o2 ≤ phSB q_3 := Nat.le_trans hm (nSB_appendS_S10 _ _ hq_3)
    exact Nat.le_trans hm (nSc_writeLiteral_56 _ _ _ _ _ h)
  · have h := op_t c_2 h
    obtain ⟨q_8, hq_8, h⟩ := op_b h
    have hm : phSB o2 ≤ phSB q_8 := Nat.le_trans hm (nSB_appendS_S9 _ _ hq_8)
    exact Nat.le_trans hm (nSc_writeLiteral_56 _ _ _ _ _ h)
set_option maxRecDepth 100000 in
theorem nSc_writeLiteral_35 (o0 : cf_O) (o1 : cf_O) (o2 : cf_O) (r : cf_O) (h : fSc_writeLiteral_35 o0 o1 o2 = some r) : phSB o2 ≤ phSB r := by
  have hm : phSB o2 ≤ phSB o2 := Nat.le_refl _
  obtain rfl := Option.some.inj h
  exact hm
set_option maxRecDepth 100000 in
theorem nSc_writeLiteral_0 (v2 : Int32) (o0 : cf_O) (o1 : cf_O) (o2 : cf_O) (r : cf_O) (h : fSc_writeLiteral_0 v2 o0 o1 o2 = some r) : phSB o2 ≤ phSB r := by
  have hm : phSB o2 ≤ phSB o2 := Nat.le_refl _
  obtain ⟨x_1, ex_1, h⟩ := op_kx h
  obtain ⟨x_2, ex_2, h⟩ := op_kx h
  rcases (Classical.em (x_2 = (0 : Int32))).symm with c_3 | c_3
  · have h := op_f c_3 h
    exact Nat.le_trans hm (nSc_writeLiteral_36 _ _ _ _ _ _ h)
  · have h := op_t c_3 h
    rcases (Classical.em (x_1 < (1 : Int32))) with c_4 | c_4
    · have h := op_t c_4 h
      exact Nat.le_trans hm (nSc_writeLiteral_36 _ _ _ _ _ _ h)
    · have h := op_f c_4 h
      rcases (Classical.em ((o1.1 0) < x_1)) with c_5 | c_5
      · have h := op_t c_5 h
        exact Nat.le_trans hm (nSc_writeLiteral_36 _ _ _ _ _ _ h)
      · have h := op_f c_5 h
        obtain ⟨x_6, ex_6, h⟩ := op_kx h
        obtain ⟨hi_7, h⟩ := op_n h
        obtain ⟨x_8, ex_8, h⟩ := op_kx h
        obtain ⟨q_9, hq_9, h⟩ := op_b h
        have hm : phSB o2 ≤ phSB q_9 := Nat.le_trans hm (nSc_writeName _ _ _ _ hq_9)
        exact Nat.le_trans hm (nSc_writeLiteral_35 _ _ _ _ h)
theorem nSc_writeLiteral (v2 : Int32) (o0 : cf_O) (o1 : cf_O) (o2 : cf_O) (r : cf_O) (h : fSc_writeLiteral v2 o0 o1 o2 = some r) : phSB o2 ≤ phSB r := nSc_writeLiteral_0  v2 o0 o1 o2 r h
set_option maxHeartbeats 4000000 in
set_option maxRecDepth 100000 in
theorem bSc_writeLiteral_65 {p : Program} {l : Launch} {e : Env} {s : State} {m : MethodId} {below : List Frame} {meth : Method} {c : Code} {A : Nat → Prop} {D : va_G} {K : Nat → ClassId} {h0 : Nat} {h1 : Nat} {a1 : Nat → Nat} {h2 : Nat} {os : cf_O} {AR : Array Value} (C : (dc_C p s m AR meth c cSc_writeLiteral 4 (Option.none : Option Jvm.ClassFile.FieldType) ySc_writeLiteral ∧ cf_E D K A s s.heap ∧ ∀ q, s.heap.size ≤ q → A q)) (o0 : cf_O) (o1 : cf_O) (o2 : cf_O) (r : cf_O) (h : fSc_writeLiteral_65 o0 o1 o2 = some r) {a2 : Nat → Nat} {H : Heap} {locs : List Loc} {ls : Array Slot} (hg : phSB os ≤ phSB o2) (hP : va_P D vwCl (wSc K h0 (fun _ => h2) o0 ++ wNl K h1 a1 o1 ++ wSB K h2 a2 o2) H) (hD : va_D A (wSc K h0 (fun _ => h2) o0 ++ wNl K h1 a1 o1 ++ wSB K h2 a2 o2)) (hS : va_S A s.heap H locs) (hl : lv_has ls 4 []) : W p l e ({ frames := 7, cells := (gC (phSB os) (phSB r)), slots := (gS (phSB os) (phSB r)), locals := 190 }) s m AR below meth c H locs (gC (phSB os) (phSB o2)) (gS (phSB os) (phSB o2)) (MQ below (va_Qv (fun (_ : Nat → Nat) => True) (fun (u : Nat → Nat) t => cf_At D A (wSc K h0 (fun _ => h2) o0 ++ wNl K h1 a1 o1 ++ wSB K h2 u r) t) A) AR s (gC (phSB os) (phSB r)) (gS (phSB os) (phSB r)) A) (F0 m 65 ls [.ref h2]) := by
  obtain ⟨⟨hx, hb, hr, hts, hown, hlocks, hin, hml⟩, hE, hA⟩ := id C
  have hK := hE.k
  refine lv_pop hx hb dSc_writeLiteral_65 rfl ?_
  obtain rfl := Option.some.inj h
  exact dc_vretG a2 hx hb hr hlocks hP hD hS dSc_writeLiteral_66
set_option maxHeartbeats 4000000 in
set_option maxRecDepth 100000 in
theorem bSc_writeLiteral_56 {p : Program} {l : Launch} {e : Env} {s : State} {m : MethodId} {below : List Frame} {meth : Method} {c : Code} {A : Nat → Prop} {D : va_G} {K : Nat → ClassId} {h0 : Nat} {h1 : Nat} {a1 : Nat → Nat} {h2 : Nat} {os : cf_O} {AR : Array Value} (C : (dc_C p s m AR meth c cSc_writeLiteral 4 (Option.none : Option Jvm.ClassFile.FieldType) ySc_writeLiteral ∧ cf_E D K A s s.heap ∧ ∀ q, s.heap.size ≤ q → A q)) (v3 : Int32) (o0 : cf_O) (o1 : cf_O) (o2 : cf_O) (r : cf_O) (h : fSc_writeLiteral_56 v3 o0 o1 o2 = some r) {a2 : Nat → Nat} {H : Heap} {locs : List Loc} {ls : Array Slot} (hg : phSB os ≤ phSB o2) (hP : va_P D vwCl (wSc K h0 (fun _ => h2) o0 ++ wNl K h1 a1 o1 ++ wSB K h2 a2 o2) H) (hD : va_D A (wSc K h0 (fun _ => h2) o0 ++ wNl K h1 a1 o1 ++ wSB K h2 a2 o2)) (hS : va_S A s.heap H locs) (hl : lv_has ls 4 [(0, .ref h0), (3, .int v3)]) : W p l e ({ frames := 7, cells := (gC (phSB os) (phSB r)), slots := (gS (phSB os) (phSB r)), locals := 190 }) s m AR below meth c H locs (gC (phSB os) (phSB o2)) (gS (phSB os) (phSB o2)) (MQ below (va_Qv (fun (_ : Nat → Nat) => True) (fun (u : Nat → Nat) t => cf_At D A (wSc K h0 (fun _ => h2) o0 ++ wNl K h1 a1 o1 ++ wSB K h2 u r) t) A) AR s (gC (phSB os) (phSB r)) (gS (phSB os) (phSB r)) A) (F0 m 56 ls [.ref h2]) := by
  obtain ⟨⟨hx, hb, hr, hts, hown, hlocks, hin, hml⟩, hE, hA⟩ := id C
  have hK := hE.k
  refine lv_pop hx hb dSc_writeLiteral_56 rfl ?_
  refine lv_aload_n hx hb dSc_writeLiteral_57 rfl (lv_at hl 0 rfl) ?_
  refine va_get (D := D) (ci := 10) (v := .ref h2) (C := RSc) (T := TSc) (N := 2) hx hb hts inSc hown hK hP 0 rfl rfl 1 (by decide) (hts _ wv_469) (fun _ h9 => h9) rfl dSc_writeLiteral_58 ?_
  refine lv_iload_n hx hb dSc_writeLiteral_61 rfl (lv_at hl 1 rfl) ?_
  obtain ⟨q_1, hq_1, h⟩ := op_b h
  have hgr_2 : phSB q_1 ≤ phSB r := nSc_writeLiteral_65 _ _ _ _ h
  have hg2_3 : phSB o2 ≤ phSB q_1 := nSB_appendI _ _ _ hq_1
  refine cf_callR (wc := wSB K h2 a2 o2) (wr := wSc K h0 (fun _ => h2) o0 ++ wNl K h1 a1 o1) (va_runV (As := [.int v3]) (rest := []) ⟨hx, hb, hml, hown, hts⟩ (mSB_appendI l D K _ v3 h2 a2 o2 _ hq_1) (cwV 1 hts (cf_GV wv_1826 wv_1646 wv_1647 wv_167 wv_1648) rfl rfl rfl (by decide +kernel) ⟨Nat.le_of_ble_eq_true rfl, Nat.le_of_ble_eq_true rfl⟩) (cf_preV (wc := wSB K h2 a2 o2) hE hP hD hS hA rfl 14 rfl [14, 15] rfl (by decide +kernel)) rfl rfl hl.1 rfl (lv_room (Nat.le_of_ble_eq_true rfl)) dSc_writeLiteral_62 ⟨Nat.le_trans (gC_add hg hg2_3) (gC_le hgr_2), Nat.le_trans (gS_add hg hg2_3) (gS_le hgr_2)⟩) hP hD hS hA [14, 15] [0, 1, 2, 3, 4, 5, 6, 7, 8, 9, 10, 11, 12, 13] rfl rfl (by decide +kernel) (by decide +kernel) (fun a2_5 H locs hw_4 hP hD hS => ?_)
  have hP : va_P D vwCl (wSc K h0 (fun _ => h2) o0 ++ wNl K h1 a1 o1 ++ wSB K h2 a2_5 q_1) H := hP.sub [0, 1, 2, 3, 4, 5, 6, 7, 8, 9, 10, 11, 12, 13, 14, 15] rfl
  have hD : va_D A (wSc K h0 (fun _ => h2) o0 ++ wNl K h1 a1 o1 ++ wSB K h2 a2_5 q_1) := hD.sub [0, 1, 2, 3, 4, 5, 6, 7, 8, 9, 10, 11, 12, 13, 14, 15] (by decide +kernel) rfl
  refine W.widen (k := (gC (phSB os) (phSB q_1))) (n := (gS (phSB os) (phSB q_1))) (gC_add hg hg2_3) (gS_add hg hg2_3) ?_
  have hg : phSB os ≤ phSB q_1 := Nat.le_trans hg hg2_3
  exact bSc_writeLiteral_65 C _ _ _ _ h hg hP hD hS (lv_sub hl [] rfl)
set_option maxHeartbeats 4000000 in
set_option maxRecDepth 100000 in
theorem bSc_writeLiteral_36 {p : Program} {l : Launch} {e : Env} {s : State} {m : MethodId} {below : List Frame} {meth : Method} {c : Code} {A : Nat → Prop} {D : va_G} {K : Nat → ClassId} {h0 : Nat} {h1 : Nat} {a1 : Nat → Nat} {h2 : Nat} {os : cf_O} {AR : Array Value} (C : (dc_C p s m AR meth c cSc_writeLiteral 4 (Option.none : Option Jvm.ClassFile.FieldType) ySc_writeLiteral ∧ cf_E D K A s s.heap ∧ ∀ q, s.heap.size ≤ q → A q)) (v2 : Int32) (v3 : Int32) (o0 : cf_O) (o1 : cf_O) (o2 : cf_O) (r : cf_O) (h : fSc_writeLiteral_36 v2 v3 o0 o1 o2 = some r) {a2 : Nat → Nat} {H : Heap} {locs : List Loc} {ls : Array Slot} (hg : phSB os ≤ phSB o2) (hP : va_P D vwCl (wSc K h0 (fun _ => h2) o0 ++ wNl K h1 a1 o1 ++ wSB K h2 a2 o2) H) (hD : va_D A (wSc K h0 (fun _ => h2) o0 ++ wNl K h1 a1 o1 ++ wSB K h2 a2 o2)) (hS : va_S A s.heap H locs) (hl : lv_has ls 4 [(0, .ref h0), (2, .int v2), (3, .int v3)]) : W p l e ({ frames := 7, cells := (gC (phSB os) (phSB r)), slots := (gS (phSB os) (phSB r)), locals := 190 }) s m AR below meth c H locs (gC (phSB os) (phSB o2)) (gS (phSB os) (phSB o2)) (MQ below (va_Qv (fun (_ : Nat → Nat) => True) (fun (u : Nat → Nat) t => cf_At D A (wSc K h0 (fun _ => h2) o0 ++ wNl K h1 a1 o1 ++ wSB K h2 u r) t) A) AR s (gC (phSB os) (phSB r)) (gS (phSB os) (phSB r)) A) (F0 m 36 ls []) := by
  obtain ⟨⟨hx, hb, hr, hts, hown, hlocks, hin, hml⟩, hE, hA⟩ := id C
  have hK := hE.k
  refine lv_aload_n hx hb dSc_writeLiteral_36 rfl (lv_at hl 0 rfl) ?_
  refine va_get (D := D) (ci := 10) (v := .ref h2) (C := RSc) (T := TSc) (N := 2) hx hb hts inSc hown hK hP 0 rfl rfl 1 (by decide) (hts _ wv_469) (fun _ h9 => h9) rfl dSc_writeLiteral_37 ?_
  refine lv_iload_n hx hb dSc_writeLiteral_40 rfl (lv_at hl 1 rfl) ?_
  refine lv_iconst (v := 1) hx hb dSc_writeLiteral_41 (by decide) ?_
  refine lv_iand hx hb dSc_writeLiteral_42 ?_
  refine lv_topi (fun x_1 ex_1 => ?_)
  have h := op_ks ex_1 h
  refine lv_if_ne (tgt := 51) hx hb dSc_writeLiteral_43 (by decide) (fun c_2 => ?_) (fun c_2 => ?_)
  · have h := op_f c_2 h
    refine va_ldcS hx hb hown (hE.s 10 rfl).1 dSc_writeLiteral_51 ?_
    obtain ⟨q_3, hq_3, h⟩ := op_b h
    have hgr_4 : phSB q_3 ≤ phSB r := nSc_writeLiteral_56 _ _ _ _ _ h
    have hg2_5 : phSB o2 ≤ phSB q_3 := nSB_appendS_S10 _ _ hq_3
    refine cf_callR (wc := wSB K h2 a2 o2) (wr := wSc K h0 (fun _ => h2) o0 ++ wNl K h1 a1 o1) (va_runV (As := [.ref (K 110)]) (rest := []) ⟨hx, hb, hml, hown, hts⟩ (mSB_appendS_S10 l D K _ h2 a2 o2 _ hq_3) (cwV 1 hts (cf_GV wv_1793 wv_1555 wv_1556 wv_167 wv_1557) rfl rfl rfl (by decide +kernel) ⟨Nat.le_of_ble_eq_true rfl, Nat.le_of_ble_eq_true rfl⟩) (cf_preV (wc := wSB K h2 a2 o2) hE hP hD hS hA rfl 14 rfl [14, 15] rfl (by decide +kernel)) rfl rfl hl.1 rfl (lv_room (Nat.le_of_ble_eq_true rfl)) dSc_writeLiteral_53 ⟨Nat.le_trans (gC_add hg hg2_5) (gC_le hgr_4), Nat.le_trans (gS_add hg hg2_5) (gS_le hgr_4)⟩) hP hD hS hA [14, 15] [0, 1, 2, 3, 4, 5, 6, 7, 8, 9, 10, 11, 12, 13] rfl rfl (by decide +kernel) (by decide +kernel) (fun a2_7 H locs hw_6 hP hD hS => ?_)
    have hP : va_P D vwCl (wSc K h0 (fun _ => h2) o0 ++ wNl K h1 a1 o1 ++ wSB K h2 a2_7 q_3) H := hP.sub [0, 1, 2, 3, 4, 5, 6, 7, 8, 9, 10, 11, 12, 13, 14, 15] rfl
    have hD : va_D A (wSc K h0 (fun _ => h2) o0 ++ wNl K h1 a1 o1 ++ wSB K h2 a2_7 q_3) := hD.sub [0, 1, 2, 3, 4, 5, 6, 7, 8, 9, 10, 11, 12, 13, 14, 15] (by decide +kernel) rfl
    refine W.widen (k := (gC (phSB os) (phSB q_3))) (n := (gS (phSB os) (phSB q_3))) (gC_add hg hg2_5) (gS_add hg hg2_5) ?_
    have hg : phSB os ≤ phSB q_3 := Nat.le_trans hg hg2_5
    exact bSc_writeLiteral_56 C _ _ _ _ _ h hg hP hD hS (lv_sub hl [0, 2] rfl)
  · have h := op_t c_2 h
    refine va_ldcS hx hb hown (hE.s 9 rfl).1 dSc_writeLiteral_46 ?_
    refine lv_goto (tgt := 53) hx hb dSc_writeLiteral_48 (by decide) ?_
    obtain ⟨q_8, hq_8, h⟩ := op_b h
    have hgr_9 : phSB q_8 ≤ phSB r := nSc_writeLiteral_56 _ _ _ _ _ h
    have hg2_10 : phSB o2 ≤ phSB q_8 := nSB_appendS_S9 _ _ hq_8
    refine cf_callR (wc := wSB K h2 a2 o2) (wr := wSc K h0 (fun _ => h2) o0 ++ wNl K h1 a1 o1) (va_runV (As := [.ref (K 109)]) (rest := []) ⟨hx, hb, hml, hown, hts⟩ (mSB_appendS_S9 l D K _ h2 a2 o2 _ hq_8) (cwV 1 hts (cf_GV wv_1793 wv_1555 wv_1556 wv_167 wv_1557) rfl rfl rfl (by decide +kernel) ⟨Nat.le_of_ble_eq_true rfl, Nat.le_of_ble_eq_true rfl⟩) (cf_preV (wc := wSB K h2 a2 o2) hE hP hD hS hA rfl 14 rfl [14, 15] rfl (by decide +kernel)) rfl rfl hl.1 rfl (lv_room (Nat.le_of_ble_eq_true rfl)) dSc_writeLiteral_53 ⟨Nat.le_trans (gC_add hg hg2_10) (gC_le hgr_9), Nat.le_trans (gS_add hg hg2_10) (gS_le hgr_9)⟩) hP hD hS hA [14, 15] [0, 1, 2, 3, 4, 5, 6, 7, 8, 9, 10, 11, 12, 13] rfl rfl (by decide +kernel) (by decide +kernel) (fun a2_12 H locs hw_11 hP hD hS => ?_)
    have hP : va_P D vwCl (wSc K h0 (fun _ => h2) o0 ++ wNl K h1 a1 o1 ++ wSB K h2 a2_12 q_8) H := hP.sub [0, 1, 2, 3, 4, 5, 6, 7, 8, 9, 10, 11, 12, 13, 14, 15] rfl
    have hD : va_D A (wSc K h0 (fun _ => h2) o0 ++ wNl K h1 a1 o1 ++ wSB K h2 a2_12 q_8) := hD.sub [0, 1, 2, 3, 4, 5, 6, 7, 8, 9, 10, 11, 12, 13, 14, 15] (by decide +kernel) rfl
    refine W.widen (k := (gC (phSB os) (phSB q_8))) (n := (gS (phSB os) (phSB q_8))) (gC_add hg hg2_10) (gS_add hg hg2_10) ?_
    have hg : phSB os ≤ phSB q_8 := Nat.le_trans hg hg2_10
    exact bSc_writeLiteral_56 C _ _ _ _ _ h hg hP hD hS (lv_sub hl [0, 2] rfl)
set_option maxHeartbeats 4000000 in
set_option maxRecDepth 100000 in
theorem bSc_writeLiteral_35 {p : Program} {l : Launch} {e : Env} {s : State} {m : MethodId} {below : List Frame} {meth : Method} {c : Code} {A : Nat → Prop} {D : va_G} {K : Nat → ClassId} {h0 : Nat} {h1 : Nat} {a1 : Nat → Nat} {h2 : Nat} {os : cf_O} {AR : Array Value} (C : (dc_C p s m AR meth c cSc_writeLiteral 4 (Option.none : Option Jvm.ClassFile.FieldType) ySc_writeLiteral ∧ cf_E D K A s s.heap ∧ ∀ q, s.heap.size ≤ q → A q)) (o0 : cf_O) (o1 : cf_O) (o2 : cf_O) (r : cf_O) (h : fSc_writeLiteral_35 o0 o1 o2 = some r) {a2 : Nat → Nat} {H : Heap} {locs : List Loc} {ls : Array Slot} (hg : phSB os ≤ phSB o2) (hP : va_P D vwCl (wSc K h0 (fun _ => h2) o0 ++ wNl K h1 a1 o1 ++ wSB K h2 a2 o2) H) (hD : va_D A (wSc K h0 (fun _ => h2) o0 ++ wNl K h1 a1 o1 ++ wSB K h2 a2 o2)) (hS : va_S A s.heap H locs) (hl : lv_has ls 4 []) : W p l e ({ frames := 7, cells := (gC (phSB os) (phSB r)), slots := (gS (phSB os) (phSB r)), locals := 190 }) s m AR below meth c H locs (gC (phSB os) (phSB o2)) (gS (phSB os) (phSB o2)) (MQ below (va_Qv (fun (_ : Nat → Nat) => True) (fun (u : Nat → Nat) t => cf_At D A (wSc K h0 (fun _ => h2) o0 ++ wNl K h1 a1 o1 ++ wSB K h2 u r) t) A) AR s (gC (phSB os) (phSB r)) (gS (phSB os) (phSB r)) A) (F0 m 35 ls []) := by
  obtain ⟨⟨hx, hb, hr, hts, hown, hlocks, hin, hml⟩, hE, hA⟩ := id C
  have hK := hE.k
  obtain rfl := Option.some.inj h
  exact dc_vretG a2 hx hb hr hlocks hP hD hS dSc_writeLiteral_35
set_option maxHeartbeats 4000000 in
set_option maxRecDepth 100000 in
theorem bSc_writeLiteral_0 {p : Program} {l : Launch} {e : Env} {s : State} {m : MethodId} {below : List Frame} {meth : Method} {c : Code} {A : Nat → Prop} {D : va_G} {K : Nat → ClassId} {h0 : Nat} {h1 : Nat} {a1 : Nat → Nat} {h2 : Nat} {os : cf_O} {AR : Array Value} (C : (dc_C p s m AR meth c cSc_writeLiteral 4 (Option.none : Option Jvm.ClassFile.FieldType) ySc_writeLiteral ∧ cf_E D K A s s.heap ∧ ∀ q, s.heap.size ≤ q → A q)) (v2 : Int32) (o0 : cf_O) (o1 : cf_O) (o2 : cf_O) (r : cf_O) (h : fSc_writeLiteral_0 v2 o0 o1 o2 = some r) {a2 : Nat → Nat} {H : Heap} {locs : List Loc} {ls : Array Slot} (hg : phSB os ≤ phSB o2) (hP : va_P D vwCl (wSc K h0 (fun _ => h2) o0 ++ wNl K h1 a1 o1 ++ wSB K h2 a2 o2) H) (hD : va_D A (wSc K h0 (fun _ => h2) o0 ++ wNl K h1 a1 o1 ++ wSB K h2 a2 o2)) (hS : va_S A s.heap H locs) (hl : lv_has ls 4 [(0, .ref h0), (1, .ref h1), (2, .int v2)]) : W p l e ({ frames := 7, cells := (gC (phSB os) (phSB r)), slots := (gS (phSB os) (phSB r)), locals := 190 }) s m AR below meth c H locs (gC (phSB os) (phSB o2)) (gS (phSB os) (phSB o2)) (MQ below (va_Qv (fun (_ : Nat → Nat) => True) (fun (u : Nat → Nat) t => cf_At D A (wSc K h0 (fun _ => h2) o0 ++ wNl K h1 a1 o1 ++ wSB K h2 u r) t) A) AR s (gC (phSB os) (phSB r)) (gS (phSB os) (phSB r)) A) (F0 m 0 ls []) := by
  obtain ⟨⟨hx, hb, hr, hts, hown, hlocks, hin, hml⟩, hE, hA⟩ := id C
  have hK := hE.k
  refine lv_iload_n hx hb dSc_writeLiteral_0 rfl (lv_at hl 2 rfl) ?_
  refine lv_iconst (v := 1) hx hb dSc_writeLiteral_1 (by decide) ?_
  refine lv_ishr hx hb dSc_writeLiteral_2 ?_
  refine lv_topi (fun x_1 ex_1 => ?_)
  have h := op_ks ex_1 h
  refine lv_istore_n (lv' := [(3, .int x_1), (0, .ref h0), (1, .ref h1), (2, .int v2)]) hx hb dSc_writeLiteral_3 rfl hl (by decide) rfl (fun ls hl => ?_)
  refine lv_iload_n hx hb dSc_writeLiteral_4 rfl (lv_at hl 3 rfl) ?_
  refine lv_iconst (v := 1) hx hb dSc_writeLiteral_5 (by decide) ?_
  refine lv_iand hx hb dSc_writeLiteral_6 ?_
  refine lv_topi (fun x_2 ex_2 => ?_)
  have h := op_ks ex_2 h
  refine lv_if_ne (tgt := 36) hx hb dSc_writeLiteral_7 (by decide) (fun c_3 => ?_) (fun c_3 => ?_)
  · have h := op_f c_3 h
    exact bSc_writeLiteral_36 C _ _ _ _ _ _ h hg hP hD hS (lv_sub hl [1, 3, 0] rfl)
  · have h := op_t c_3 h
    refine lv_iload_n hx hb dSc_writeLiteral_10 rfl (lv_at hl 0 rfl) ?_
    refine lv_iconst (v := 1) hx hb dSc_writeLiteral_11 (by decide) ?_
    refine lv_icmp_lt (tgt := 36) hx hb dSc_writeLiteral_12 (by decide) (fun c_4 => ?_) (fun c_4 => ?_)
    · have h := op_t c_4 h
      exact bSc_writeLiteral_36 C _ _ _ _ _ _ h hg hP hD hS (lv_sub hl [1, 3, 0] rfl)
    · have h := op_f c_4 h
      refine lv_iload_n hx hb dSc_writeLiteral_15 rfl (lv_at hl 0 rfl) ?_
      refine lv_aload_n hx hb dSc_writeLiteral_16 rfl (lv_at hl 2 rfl) ?_
      refine va_get (D := D) (ci := 2) (v := .int (o1.1 0)) (C := RNl) (T := TNl) (N := 17) hx hb hts inNl hown hK hP 1 rfl rfl 0 (by decide) (hts _ wv_484) (fun _ h9 => h9) rfl dSc_writeLiteral_17 ?_
      refine lv_icmp_gt (tgt := 36) hx hb dSc_writeLiteral_20 (by decide) (fun c_5 => ?_) (fun c_5 => ?_)
      · have h := op_t c_5 h
        exact bSc_writeLiteral_36 C _ _ _ _ _ _ h hg hP hD hS (lv_sub hl [1, 3, 0] rfl)
      · have h := op_f c_5 h
        refine lv_aload_n hx hb dSc_writeLiteral_23 rfl (lv_at hl 1 rfl) ?_
        refine lv_aload_n hx hb dSc_writeLiteral_24 rfl (lv_at hl 2 rfl) ?_
        refine va_get (D := D) (ci := 2) (v := .ref (a1 3)) (C := RNl) (T := TNl) (N := 17) hx hb hts inNl hown hK hP 1 rfl rfl 3 (by decide) (hts _ wv_490) (fun _ h9 => h9) rfl dSc_writeLiteral_25 ?_
        refine lv_iload_n hx hb dSc_writeLiteral_28 rfl (lv_at hl 0 rfl) ?_
        refine lv_iconst (v := 1) hx hb dSc_writeLiteral_29 (by decide) ?_
        refine lv_isub hx hb dSc_writeLiteral_30 ?_
        refine lv_topi (fun x_6 ex_6 => ?_)
        have h := op_ks ex_6 h
        obtain ⟨hi_7, h⟩ := op_n h
        refine va_lald (D := D) hx hb hK hP 2 1 rfl rfl hi_7 dSc_writeLiteral_31 ?_
        refine lv_topl (fun x_8 ex_8 => ?_)
        have h := op_ks ex_8 h
        obtain ⟨q_9, hq_9, h⟩ := op_b h
        have hgr_10 : phSB q_9 ≤ phSB r := nSc_writeLiteral_35 _ _ _ _ h
        have hg2_11 : phSB o2 ≤ phSB q_9 := nSc_writeName _ _ _ _ hq_9
        refine cf_callv (wc := wSc K h0 (fun _ => h2) o0 ++ wSB K h2 a2 o2) (wr := wNl K h1 a1 o1) (va_runV (As := [.long x_8]) (rest := []) ⟨hx, hb, hml, hown, hts⟩ (mSc_writeName l D K _ x_8 h0 h2 a2 o0 o2 _ hq_9) (cwV 1 hts (cf_GV wv_1794 wv_1795 wv_1796 wv_165 wv_1797) rfl rfl rfl (by decide +kernel) ⟨Nat.le_of_ble_eq_true rfl, Nat.le_of_ble_eq_true rfl⟩) (cf_preV (wc := wSc K h0 (fun _ => h2) o0 ++ wSB K h2 a2 o2) hE hP hD hS hA rfl 0 rfl [0, 14, 15] rfl (by decide +kernel)) rfl rfl hl.1 rfl (lv_room (Nat.le_of_ble_eq_true rfl)) dSc_writeLiteral_32 ⟨Nat.le_trans (gC_add hg hg2_11) (gC_le hgr_10), Nat.le_trans (gS_add hg hg2_11) (gS_le hgr_10)⟩) hP hD hS hA [0, 14, 15] [1, 2, 3, 4, 5, 6, 7, 8, 9, 10, 11, 12, 13] rfl rfl (by decide +kernel) (by decide +kernel) (fun a2_13 H locs hw_12 hP hD hS => ?_)
        have hP : va_P D vwCl (wSc K h0 (fun _ => h2) o0 ++ wNl K h1 a1 o1 ++ wSB K h2 a2_13 q_9) H := hP.sub [13, 0, 1, 2, 3, 4, 5, 6, 7, 8, 9, 10, 11, 12, 14, 15] rfl
        have hD : va_D A (wSc K h0 (fun _ => h2) o0 ++ wNl K h1 a1 o1 ++ wSB K h2 a2_13 q_9) := hD.sub [13, 0, 1, 2, 3, 4, 5, 6, 7, 8, 9, 10, 11, 12, 14, 15] (by decide +kernel) rfl
        refine W.widen (k := (gC (phSB os) (phSB q_9))) (n := (gS (phSB os) (phSB q_9))) (gC_add hg hg2_11) (gS_add hg hg2_11) ?_
        have hg : phSB os ≤ phSB q_9 := Nat.le_trans hg hg2_11
        exact bSc_writeLiteral_35 C _ _ _ _ h hg hP hD hS (lv_sub hl [] rfl)
set_option maxRecDepth 100000 in
theorem mSc_writeLiteral (l : Launch) (D : va_G) (K : Nat → ClassId) (sz : Nat) (v2 : Int32) (h0 : Nat) (h1 : Nat) (a1 : Nat → Nat) (h2 : Nat) (a2 : Nat → Nat) (o0 : cf_O) (o1 : cf_O) (o2 : cf_O) (r : cf_O) (h : fSc_writeLiteral v2 o0 o1 o2 = some r) : Met l ySc_writeLiteral (Cond.code ySc_writeLiteral cSc_writeLiteral 4 (Option.none : Option Jvm.ClassFile.FieldType) :: cfB) ({ frames := 7, cells := (gC (phSB o2) (phSB r)), slots := (gS (phSB o2) (phSB r)), locals := 190 }) (va_Pc [.ref h0, .ref h1, .int v2] (cf_Pre D K sz (wSc K h0 (fun _ => h2) o0 ++ wNl K h1 a1 o1 ++ wSB K h2 a2 o2))) (va_Qv (fun (_ : Nat → Nat) => True) (fun (u : Nat → Nat) t => cf_At D (va_A (wSc K h0 (fun _ => h2) o0 ++ wNl K h1 a1 o1 ++ wSB K h2 a2 o2) sz) (wSc K h0 (fun _ => h2) o0 ++ wNl K h1 a1 o1 ++ wSB K h2 u r) t) (va_A (wSc K h0 (fun _ => h2) o0 ++ wNl K h1 a1 o1 ++ wSB K h2 a2 o2) sz)) (gC (phSB o2) (phSB r)) (gS (phSB o2) (phSB r)) (va_A (wSc K h0 (fun _ => h2) o0 ++ wNl K h1 a1 o1 ++ wSB K h2 a2 o2) sz) := by
  refine cf_ofW (y := ySc_writeLiteral) (As := [.ref h0, .ref h1, .int v2]) (WS := wSc K h0 (fun _ => h2) o0 ++ wNl K h1 a1 o1 ++ wSB K h2 a2 o2) (maxL := 4) (fun A => (va_Qv (fun (_ : Nat → Nat) => True) (fun (u : Nat → Nat) t => cf_At D A (wSc K h0 (fun _ => h2) o0 ++ wNl K h1 a1 o1 ++ wSB K h2 u r) t) A)) (by decide) (Nat.le_of_ble_eq_true rfl) ?_
  intro p e s m below meth c A ls En hsz hA hP hD hE hS hl
  have C : (dc_C p s m (([.ref h0, .ref h1, .int v2] : List Value).toArray) meth c cSc_writeLiteral 4 (Option.none : Option Jvm.ClassFile.FieldType) ySc_writeLiteral ∧ cf_E D K A s s.heap ∧ ∀ q, s.heap.size ≤ q → A q) := ⟨En, hE, hA⟩
  refine W.widen (k := gC (phSB o2) (phSB o2)) (n := gS (phSB o2) (phSB o2)) (Nat.zero_le _) (Nat.zero_le _) ?_
  exact bSc_writeLiteral_0 C v2 o0 o1 o2 r h (Nat.le_refl _) hP hD hS hl
set_option maxRecDepth 100000 in
theorem nSc_writeNode_8 (o0 : cf_O) (o1 : cf_O) (o2 : cf_O) (r : cf_O) (h : fSc_writeNode_8 o0 o1 o2 = some r) : phSB o2 ≤ phSB r := by
  have hm : phSB o2 ≤ phSB o2 := Nat.le_refl _
  obtain rfl := Option.some.inj h
  exact hm
set_option maxRecDepth 100000 in
theorem nSc_writeNode_0 (v2 : Int32) (o0 : cf_O) (o1 : cf_O) (o2 : cf_O) (r : cf_O) (h : fSc_writeNode_0 v2 o0 o1 o2 = some r) : phSB o2 ≤ phSB r := by
  have hm : phSB o2 ≤ phSB o2 := Nat.le_refl _
  obtain ⟨x_1, ex_1, h⟩ := op_kx h
  obtain ⟨q_2, hq_2, h⟩ := op_b h
  have hm : phSB o2 ≤ phSB q_2 := Nat.le_trans hm (nSc_writeLiteral _ _ _ _ _ hq_2)
  exact Nat.le_trans hm (nSc_writeNode_8 _ _ _ _ h)
theorem nSc_writeNode (v2 : Int32) (o0 : cf_O) (o1 : cf_O) (o2 : cf_O) (r : cf_O) (h : fSc_writeNode v2 o0 o1 o2 = some r) : phSB o2 ≤ phSB r := nSc_writeNode_0  v2 o0 o1 o2 r h
set_option maxHeartbeats 4000000 in
set_option maxRecDepth 100000 in
theorem bSc_writeNode_8 {p : Program} {l : Launch} {e : Env} {s : State} {m : MethodId} {below : List Frame} {meth : Method} {c : Code} {A : Nat → Prop} {D : va_G} {K : Nat → ClassId} {h0 : Nat} {h1 : Nat} {a1 : Nat → Nat} {h2 : Nat} {os : cf_O} {AR : Array Value} (C : (dc_C p s m AR meth c cSc_writeNode 3 (Option.none : Option Jvm.ClassFile.FieldType) ySc_writeNode ∧ cf_E D K A s s.heap ∧ ∀ q, s.heap.size ≤ q → A q)) (o0 : cf_O) (o1 : cf_O) (o2 : cf_O) (r : cf_O) (h : fSc_writeNode_8 o0 o1 o2 = some r) {a2 : Nat → Nat} {H : Heap} {locs : List Loc} {ls : Array Slot} (hg : phSB os ≤ phSB o2) (hP : va_P D vwCl (wSc K h0 (fun _ => h2) o0 ++ wNl K h1 a1 o1 ++ wSB K h2 a2 o2) H) (hD : va_D A (wSc K h0 (fun _ => h2) o0 ++ wNl K h1 a1 o1 ++ wSB K h2 a2 o2)) (hS : va_S A s.heap H locs) (hl : lv_has ls 3 []) : W p l e ({ frames := 8, cells := (gC (phSB os) (phSB r)), slots := (gS (phSB os) (phSB r)), locals := 213 }) s m AR below meth c H locs (gC (phSB os) (phSB o2)) (gS (phSB os) (phSB o2)) (MQ below (va_Qv (fun (_ : Nat → Nat) => True) (fun (u : Nat → Nat) t => cf_At D A (wSc K h0 (fun _ => h2) o0 ++ wNl K h1 a1 o1 ++ wSB K h2 u r) t) A) AR s (gC (phSB os) (phSB r)) (gS (phSB os) (phSB r)) A) (F0 m 8 ls []) := by
  obtain ⟨⟨hx, hb, hr, hts, hown, hlocks, hin, hml⟩, hE, hA⟩ := id C
  have hK := hE.k
  obtain rfl := Option.some.inj h
  exact dc_vretG a2 hx hb hr hlocks hP hD hS dSc_writeNode_8
set_option maxHeartbeats 4000000 in
set_option maxRecDepth 100000 in
theorem bSc_writeNode_0 {p : Program} {l : Launch} {e : Env} {s : State} {m : MethodId} {below : List Frame} {meth : Method} {c : Code} {A : Nat → Prop} {D : va_G} {K : Nat → ClassId} {h0 : Nat} {h1 : Nat} {a1 : Nat → Nat} {h2 : Nat} {os : cf_O} {AR : Array Value} (C : (dc_C p s m AR meth c cSc_writeNode 3 (Option.none : Option Jvm.ClassFile.FieldType) ySc_writeNode ∧ cf_E D K A s s.heap ∧ ∀ q, s.heap.size ≤ q → A q)) (v2 : Int32) (o0 : cf_O) (o1 : cf_O) (o2 : cf_O) (r : cf_O) (h : fSc_writeNode_0 v2 o0 o1 o2 = some r) {a2 : Nat → Nat} {H : Heap} {locs : List Loc} {ls : Array Slot} (hg : phSB os ≤ phSB o2) (hP : va_P D vwCl (wSc K h0 (fun _ => h2) o0 ++ wNl K h1 a1 o1 ++ wSB K h2 a2 o2) H) (hD : va_D A (wSc K h0 (fun _ => h2) o0 ++ wNl K h1 a1 o1 ++ wSB K h2 a2 o2)) (hS : va_S A s.heap H locs) (hl : lv_has ls 3 [(0, .ref h0), (1, .ref h1), (2, .int v2)]) : W p l e ({ frames := 8, cells := (gC (phSB os) (phSB r)), slots := (gS (phSB os) (phSB r)), locals := 213 }) s m AR below meth c H locs (gC (phSB os) (phSB o2)) (gS (phSB os) (phSB o2)) (MQ below (va_Qv (fun (_ : Nat → Nat) => True) (fun (u : Nat → Nat) t => cf_At D A (wSc K h0 (fun _ => h2) o0 ++ wNl K h1 a1 o1 ++ wSB K h2 u r) t) A) AR s (gC (phSB os) (phSB r)) (gS (phSB os) (phSB r)) A) (F0 m 0 ls []) := by
  obtain ⟨⟨hx, hb, hr, hts, hown, hlocks, hin, hml⟩, hE, hA⟩ := id C
  have hK := hE.k
  refine lv_aload_n hx hb dSc_writeNode_0 rfl (lv_at hl 0 rfl) ?_
  refine lv_aload_n hx hb dSc_writeNode_1 rfl (lv_at hl 1 rfl) ?_
  refine lv_iconst (v := 2) hx hb dSc_writeNode_2 (by decide) ?_
  refine lv_iload_n hx hb dSc_writeNode_3 rfl (lv_at hl 2 rfl) ?_
  refine lv_imul hx hb dSc_writeNode_4 ?_
  refine lv_topi (fun x_1 ex_1 => ?_)
  have h := op_ks ex_1 h
  obtain ⟨q_2, hq_2, h⟩ := op_b h
  have hgr_3 : phSB q_2 ≤ phSB r := nSc_writeNode_8 _ _ _ _ h
  have hg2_4 : phSB o2 ≤ phSB q_2 := nSc_writeLiteral _ _ _ _ _ hq_2
  refine cf_callv (wc := wSc K h0 (fun _ => h2) o0 ++ wNl K h1 a1 o1 ++ wSB K h2 a2 o2) (wr := []) (va_runV (As := [.ref h1, .int x_1]) (rest := []) ⟨hx, hb, hml, hown, hts⟩ (mSc_writeLiteral l D K _ x_1 h0 h1 a1 h2 a2 o0 o1 o2 _ hq_2) (cwV 2 hts (cf_GV wv_1820 wv_1821 wv_1822 wv_165 wv_1823) rfl rfl rfl (by decide +kernel) ⟨Nat.le_of_ble_eq_true rfl, Nat.le_of_ble_eq_true rfl⟩) (cf_preV (wc := wSc K h0 (fun _ => h2) o0 ++ wNl K h1 a1 o1 ++ wSB K h2 a2 o2) hE hP hD hS hA rfl 0 rfl [0, 1, 2, 3, 4, 5, 6, 7, 8, 9, 10, 11, 12, 13, 14, 15] rfl (by decide +kernel)) rfl rfl hl.1 rfl (lv_room (Nat.le_of_ble_eq_true rfl)) dSc_writeNode_5 ⟨Nat.le_trans (gC_add hg hg2_4) (gC_le hgr_3), Nat.le_trans (gS_add hg hg2_4) (gS_le hgr_3)⟩) hP hD hS hA [0, 1, 2, 3, 4, 5, 6, 7, 8, 9, 10, 11, 12, 13, 14, 15] [] rfl rfl (by decide +kernel) (by decide +kernel) (fun a2_6 H locs hw_5 hP hD hS => ?_)
  have hP : va_P D vwCl (wSc K h0 (fun _ => h2) o0 ++ wNl K h1 a1 o1 ++ wSB K h2 a2_6 q_2) H := hP.sub [0, 1, 2, 3, 4, 5, 6, 7, 8, 9, 10, 11, 12, 13, 14, 15] rfl
  have hD : va_D A (wSc K h0 (fun _ => h2) o0 ++ wNl K h1 a1 o1 ++ wSB K h2 a2_6 q_2) := hD.sub [0, 1, 2, 3, 4, 5, 6, 7, 8, 9, 10, 11, 12, 13, 14, 15] (by decide +kernel) rfl
  refine W.widen (k := (gC (phSB os) (phSB q_2))) (n := (gS (phSB os) (phSB q_2))) (gC_add hg hg2_4) (gS_add hg hg2_4) ?_
  have hg : phSB os ≤ phSB q_2 := Nat.le_trans hg hg2_4
  exact bSc_writeNode_8 C _ _ _ _ h hg hP hD hS (lv_sub hl [] rfl)
set_option maxRecDepth 100000 in
theorem mSc_writeNode (l : Launch) (D : va_G) (K : Nat → ClassId) (sz : Nat) (v2 : Int32) (h0 : Nat) (h1 : Nat) (a1 : Nat → Nat) (h2 : Nat) (a2 : Nat → Nat) (o0 : cf_O) (o1 : cf_O) (o2 : cf_O) (r : cf_O) (h : fSc_writeNode v2 o0 o1 o2 = some r) : Met l ySc_writeNode (Cond.code ySc_writeNode cSc_writeNode 3 (Option.none : Option Jvm.ClassFile.FieldType) :: cfB) ({ frames := 8, cells := (gC (phSB o2) (phSB r)), slots := (gS (phSB o2) (phSB r)), locals := 213 }) (va_Pc [.ref h0, .ref h1, .int v2] (cf_Pre D K sz (wSc K h0 (fun _ => h2) o0 ++ wNl K h1 a1 o1 ++ wSB K h2 a2 o2))) (va_Qv (fun (_ : Nat → Nat) => True) (fun (u : Nat → Nat) t => cf_At D (va_A (wSc K h0 (fun _ => h2) o0 ++ wNl K h1 a1 o1 ++ wSB K h2 a2 o2) sz) (wSc K h0 (fun _ => h2) o0 ++ wNl K h1 a1 o1 ++ wSB K h2 u r) t) (va_A (wSc K h0 (fun _ => h2) o0 ++ wNl K h1 a1 o1 ++ wSB K h2 a2 o2) sz)) (gC (phSB o2) (phSB r)) (gS (phSB o2) (phSB r)) (va_A (wSc K h0 (fun _ => h2) o0 ++ wNl K h1 a1 o1 ++ wSB K h2 a2 o2) sz) := by
  refine cf_ofW (y := ySc_writeNode) (As := [.ref h0, .ref h1, .int v2]) (WS := wSc K h0 (fun _ => h2) o0 ++ wNl K h1 a1 o1 ++ wSB K h2 a2 o2) (maxL := 3) (fun A => (va_Qv (fun (_ : Nat → Nat) => True) (fun (u : Nat → Nat) t => cf_At D A (wSc K h0 (fun _ => h2) o0 ++ wNl K h1 a1 o1 ++ wSB K h2 u r) t) A)) (by decide) (Nat.le_of_ble_eq_true rfl) ?_
  intro p e s m below meth c A ls En hsz hA hP hD hE hS hl
  have C : (dc_C p s m (([.ref h0, .ref h1, .int v2] : List Value).toArray) meth c cSc_writeNode 3 (Option.none : Option Jvm.ClassFile.FieldType) ySc_writeNode ∧ cf_E D K A s s.heap ∧ ∀ q, s.heap.size ≤ q → A q) := ⟨En, hE, hA⟩
  refine W.widen (k := gC (phSB o2) (phSB o2)) (n := gS (phSB o2) (phSB o2)) (Nat.zero_le _) (Nat.zero_le _) ?_
  exact bSc_writeNode_0 C v2 o0 o1 o2 r h (Nat.le_refl _) hP hD hS hl
set_option maxHeartbeats 4000000 in
set_option maxRecDepth 100000 in
theorem bJString_coder__S11_14 {p : Program} {l : Launch} {e : Env} {s : State} {m : MethodId} {below : List Frame} {meth : Method} {c : Code} {A : Nat → Prop} {D : va_G} {K : Nat → ClassId} {AR : Array Value} (C : (dc_C p s m AR meth c cJString_coder_ 1 (Option.some Jvm.ClassFile.FieldType.byte) yJString_coder_ ∧ cf_E D K A s s.heap ∧ ∀ q, s.heap.size ≤ q → A q)) (s0 : Int32) (r : Int32) (h : fJString_coder__S11_14 s0 = some r) {H : Heap} {locs : List Loc} {ls : Array Slot} (hP : va_P D vwCl ([]) H) (hD : va_D A ([])) (hS : va_S A s.heap H locs) (hl : lv_has ls 1 []) : W p l e ({ frames := 0, cells := 0, slots := 0, locals := 0 }) s m AR below meth c H locs 0 0 (MQ below (va_Qi (fun (x : Int32) (_ : Unit) => x = r) (fun (_ : Unit) t => cf_At D A ([]) t) A) AR s 0 0 A) (F0 m 14 ls [.int s0]) := by
  obtain ⟨⟨hx, hb, hr, hts, hown, hlocks, hin, hml⟩, hE, hA⟩ := id C
  have hK := hE.k
  obtain ⟨hz_1, h⟩ := op_w h
  obtain rfl := Option.some.inj h
  exact dc_zretn hx hb hr (op_nb hz_1) hlocks rfl hP hD hS dJString_coder__14
set_option maxHeartbeats 4000000 in
set_option maxRecDepth 100000 in
theorem bJString_coder__S11_0 {p : Program} {l : Launch} {e : Env} {s : State} {m : MethodId} {below : List Frame} {meth : Method} {c : Code} {A : Nat → Prop} {D : va_G} {K : Nat → ClassId} {AR : Array Value} (C : (dc_C p s m AR meth c cJString_coder_ 1 (Option.some Jvm.ClassFile.FieldType.byte) yJString_coder_ ∧ cf_E D K A s s.heap ∧ ∀ q, s.heap.size ≤ q → A q)) (r : Int32) (h : fJString_coder__S11_0 = some r) {H : Heap} {locs : List Loc} {ls : Array Slot} (hP : va_P D vwCl ([]) H) (hD : va_D A ([])) (hS : va_S A s.heap H locs) (hl : lv_has ls 1 [(0, .ref (K 111))]) : W p l e ({ frames := 0, cells := 0, slots := 0, locals := 0 }) s m AR below meth c H locs 0 0 (MQ below (va_Qi (fun (x : Int32) (_ : Unit) => x = r) (fun (_ : Unit) t => cf_At D A ([]) t) A) AR s 0 0 A) (F0 m 0 ls []) := by
  obtain ⟨⟨hx, hb, hr, hts, hown, hlocks, hin, hml⟩, hE, hA⟩ := id C
  have hK := hE.k
  refine va_gets hx hb hE.2.2.2.2.2.2.1 hS hown (hts _ wv_764) (fun _ h9 => h9) dJString_coder__0 ?_
  refine lv_if_eq (tgt := 13) hx hb dJString_coder__3 (by decide) (fun c_1 => absurd c_1 (by decide)) (fun _ => ?_)
  refine lv_aload_n hx hb dJString_coder__6 rfl (lv_at hl 0 rfl) ?_
  refine vk_getf hx hb (hE.s 11 rfl).2.2.1 hS hown (hts _ wv_1736) (fun _ h9 => h9) dJString_coder__7 ?_
  refine lv_goto (tgt := 14) hx hb dJString_coder__10 (by decide) ?_
  exact bJString_coder__S11_14 C _ _ h hP hD hS (lv_sub hl [] rfl)
set_option maxRecDepth 100000 in
theorem mJString_coder__S11 (l : Launch) (D : va_G) (K : Nat → ClassId) (sz : Nat) (r : Int32) (h : fJString_coder__S11 = some r) : Met l yJString_coder_ (Cond.code yJString_coder_ cJString_coder_ 1 (Option.some Jvm.ClassFile.FieldType.byte) :: cfB) ({ frames := 0, cells := 0, slots := 0, locals := 0 }) (va_Pc [.ref (K 111)] (cf_Pre D K sz ([]))) (va_Qi (fun (x : Int32) (_ : Unit) => x = r) (fun (_ : Unit) t => cf_At D (va_A ([]) sz) ([]) t) (va_A ([]) sz)) 0 0 (va_A ([]) sz) := by
  refine cf_ofW (y := yJString_coder_) (As := [.ref (K 111)]) (WS := []) (maxL := 1) (fun A => (va_Qi (fun (x : Int32) (_ : Unit) => x = r) (fun (_ : Unit) t => cf_At D A ([]) t) A)) (by decide) (Nat.le_of_ble_eq_true rfl) ?_
  intro p e s m below meth c A ls En hsz hA hP hD hE hS hl
  have C : (dc_C p s m (([.ref (K 111)] : List Value).toArray) meth c cJString_coder_ 1 (Option.some Jvm.ClassFile.FieldType.byte) yJString_coder_ ∧ cf_E D K A s s.heap ∧ ∀ q, s.heap.size ≤ q → A q) := ⟨En, hE, hA⟩
  exact bJString_coder__S11_0 C r h hP hD hS hl
set_option maxHeartbeats 4000000 in
set_option maxRecDepth 100000 in
theorem bJString_length__S11_0 {p : Program} {l : Launch} {e : Env} {s : State} {m : MethodId} {below : List Frame} {meth : Method} {c : Code} {A : Nat → Prop} {D : va_G} {K : Nat → ClassId} {AR : Array Value} (C : (dc_C p s m AR meth c cJString_length_ 1 (Option.some Jvm.ClassFile.FieldType.int) yJString_length_ ∧ cf_E D K A s s.heap ∧ ∀ q, s.heap.size ≤ q → A q)) (r : Int32) (h : fJString_length__S11_0 = some r) {H : Heap} {locs : List Loc} {ls : Array Slot} (hP : va_P D vwCl ([]) H) (hD : va_D A ([])) (hS : va_S A s.heap H locs) (hl : lv_has ls 1 [(0, .ref (K 111))]) : W p l e ({ frames := 1, cells := 0, slots := 0, locals := 20 }) s m AR below meth c H locs 0 0 (MQ below (va_Qi (fun (x : Int32) (_ : Unit) => x = r) (fun (_ : Unit) t => cf_At D A ([]) t) A) AR s 0 0 A) (F0 m 0 ls []) := by
  obtain ⟨⟨hx, hb, hr, hts, hown, hlocks, hin, hml⟩, hE, hA⟩ := id C
  have hK := hE.k
  refine lv_aload_n hx hb dJString_length__0 rfl (lv_at hl 0 rfl) ?_
  refine vk_getf hx hb (hE.s 11 rfl).2.2.2.1 hS hown (hts _ wv_1735) (fun _ h9 => h9) dJString_length__1 ?_
  refine va_tlen (v := 3) hx hb (hE.s 11 rfl).2.2.2.2 hS rfl dJString_length__4 ?_
  refine lv_aload_n hx hb dJString_length__5 rfl (lv_at hl 0 rfl) ?_
  obtain ⟨q_1, hq_1, h⟩ := op_b h
  refine cf_calli (wc := []) (wr := []) (va_runV (As := []) (rest := [.int 3]) ⟨hx, hb, hml, hown, hts⟩ (mJString_coder__S11 l D K _ _ hq_1) (cwV 0 hts (cf_GV wv_760 wv_761 wv_762 wv_168 wv_763) rfl rfl rfl (by decide +kernel) ⟨Nat.le_of_ble_eq_true rfl, Nat.le_of_ble_eq_true rfl⟩) (cf_preO (wc := []) (hE.s 11 rfl).2.1 hE hP hD hS hA [] rfl (by decide +kernel)) rfl rfl hl.1 rfl (lv_room (Nat.le_of_ble_eq_true rfl)) dJString_length__6 ⟨Nat.le_of_ble_eq_true rfl, Nat.le_of_ble_eq_true rfl⟩) hP hD hS hA [] [] rfl rfl (by decide +kernel) (by decide +kernel) (fun r_2 _ H locs hw_3 hP hD hS => ?_)
  subst r_2
  have hP : va_P D vwCl ([]) H := hP.sub [] rfl
  have hD : va_D A ([]) := hD.sub [] (by decide +kernel) rfl
  refine lv_ishr hx hb dJString_length__9 ?_
  refine lv_topi (fun x_4 ex_4 => ?_)
  have h := op_ks ex_4 h
  obtain rfl := Option.some.inj h
  exact dc_iret hx hb hr hlocks rfl hP hD hS dJString_length__10
set_option maxRecDepth 100000 in
theorem mJString_length__S11 (l : Launch) (D : va_G) (K : Nat → ClassId) (sz : Nat) (r : Int32) (h : fJString_length__S11 = some r) : Met l yJString_length_ (Cond.code yJString_length_ cJString_length_ 1 (Option.some Jvm.ClassFile.FieldType.int) :: cfB) ({ frames := 1, cells := 0, slots := 0, locals := 20 }) (va_Pc [.ref (K 111)] (cf_Pre D K sz ([]))) (va_Qi (fun (x : Int32) (_ : Unit) => x = r) (fun (_ : Unit) t => cf_At D (va_A ([]) sz) ([]) t) (va_A ([]) sz)) 0 0 (va_A ([]) sz) := by
  refine cf_ofW (y := yJString_length_) (As := [.ref (K 111)]) (WS := []) (maxL := 1) (fun A => (va_Qi (fun (x : Int32) (_ : Unit) => x = r) (fun (_ : Unit) t => cf_At D A ([]) t) A)) (by decide) (Nat.le_of_ble_eq_true rfl) ?_
  intro p e s m below meth c A ls En hsz hA hP hD hE hS hl
  have C : (dc_C p s m (([.ref (K 111)] : List Value).toArray) meth c cJString_length_ 1 (Option.some Jvm.ClassFile.FieldType.int) yJString_length_ ∧ cf_E D K A s s.heap ∧ ∀ q, s.heap.size ≤ q → A q) := ⟨En, hE, hA⟩
  exact bJString_length__S11_0 C r h hP hD hS hl
set_option maxHeartbeats 4000000 in
set_option maxRecDepth 100000 in
theorem bAS_inflateIfNeededFor_S11_21 {p : Program} {l : Launch} {e : Env} {s : State} {m : MethodId} {below : List Frame} {meth : Method} {c : Code} {A : Nat → Prop} {D : va_G} {K : Nat → ClassId} {h0 : Nat} {a0 : Nat → Nat} {AR : Array Value} (C : (dc_C p s m AR meth c cAS_inflateIfNeededFor 2 (Option.none : Option Jvm.ClassFile.FieldType) yAS_inflateIfNeededFor ∧ cf_E D K A s s.heap ∧ ∀ q, s.heap.size ≤ q → A q)) (o0 : cf_O) (r : Unit) (h : fAS_inflateIfNeededFor_S11_21 o0 = some r) {H : Heap} {locs : List Loc} {ls : Array Slot} (hP : va_P D vwCl (wSB K h0 a0 o0) H) (hD : va_D A (wSB K h0 a0 o0)) (hS : va_S A s.heap H locs) (hl : lv_has ls 2 []) : W p l e ({ frames := 1, cells := 0, slots := 0, locals := 20 }) s m AR below meth c H locs 0 0 (MQ below (va_Qv (fun (_ : Unit) => True) (fun (_ : Unit) t => cf_At D A (wSB K h0 a0 o0) t) A) AR s 0 0 A) (F0 m 21 ls []) := by
  obtain ⟨⟨hx, hb, hr, hts, hown, hlocks, hin, hml⟩, hE, hA⟩ := id C
  have hK := hE.k
  obtain rfl := Option.some.inj h
  exact dc_vret hx hb hr hlocks rfl hP hD hS dAS_inflateIfNeededFor_21
set_option maxHeartbeats 4000000 in
set_option maxRecDepth 100000 in
theorem bAS_inflateIfNeededFor_S11_0 {p : Program} {l : Launch} {e : Env} {s : State} {m : MethodId} {below : List Frame} {meth : Method} {c : Code} {A : Nat → Prop} {D : va_G} {K : Nat → ClassId} {h0 : Nat} {a0 : Nat → Nat} {AR : Array Value} (C : (dc_C p s m AR meth c cAS_inflateIfNeededFor 2 (Option.none : Option Jvm.ClassFile.FieldType) yAS_inflateIfNeededFor ∧ cf_E D K A s s.heap ∧ ∀ q, s.heap.size ≤ q → A q)) (o0 : cf_O) (r : Unit) (h : fAS_inflateIfNeededFor_S11_0 o0 = some r) {H : Heap} {locs : List Loc} {ls : Array Slot} (hP : va_P D vwCl (wSB K h0 a0 o0) H) (hD : va_D A (wSB K h0 a0 o0)) (hS : va_S A s.heap H locs) (hl : lv_has ls 2 [(0, .ref h0), (1, .ref (K 111))]) : W p l e ({ frames := 1, cells := 0, slots := 0, locals := 20 }) s m AR below meth c H locs 0 0 (MQ below (va_Qv (fun (_ : Unit) => True) (fun (_ : Unit) t => cf_At D A (wSB K h0 a0 o0) t) A) AR s 0 0 A) (F0 m 0 ls []) := by
  obtain ⟨⟨hx, hb, hr, hts, hown, hlocks, hin, hml⟩, hE, hA⟩ := id C
  have hK := hE.k
  refine va_gets hx hb hE.2.2.2.2.2.2.1 hS hown (hts _ wv_444) (fun _ h9 => h9) dAS_inflateIfNeededFor_0 ?_
  refine lv_if_eq (tgt := 21) hx hb dAS_inflateIfNeededFor_3 (by decide) (fun c_1 => absurd c_1 (by decide)) (fun _ => ?_)
  refine lv_aload_n hx hb dAS_inflateIfNeededFor_6 rfl (lv_at hl 0 rfl) ?_
  refine va_get (D := D) (ci := 13) (v := .int (o0.1 1)) (C := RSB) (T := TSB) (N := 4) hx hb hts inSB hown hK hP 0 rfl rfl 1 (by decide) (hts _ wv_454) (fun _ h9 => h9) rfl dAS_inflateIfNeededFor_7 ?_
  refine lv_aload_n hx hb dAS_inflateIfNeededFor_10 rfl (lv_at hl 1 rfl) ?_
  obtain ⟨q_2, hq_2, h⟩ := op_b h
  refine cf_calli (wc := []) (wr := wSB K h0 a0 o0) (va_runV (As := []) (rest := [.int (o0.1 1)]) ⟨hx, hb, hml, hown, hts⟩ (mJString_coder__S11 l D K _ _ hq_2) (cwV 0 hts (cf_GV wv_1619 wv_761 wv_762 wv_168 wv_763) rfl rfl rfl (by decide +kernel) ⟨Nat.le_of_ble_eq_true rfl, Nat.le_of_ble_eq_true rfl⟩) (cf_preO (wc := []) (hE.s 11 rfl).2.1 hE hP hD hS hA [] rfl (by decide +kernel)) rfl rfl hl.1 rfl (lv_room (Nat.le_of_ble_eq_true rfl)) dAS_inflateIfNeededFor_11 ⟨Nat.le_of_ble_eq_true rfl, Nat.le_of_ble_eq_true rfl⟩) hP hD hS hA [] [0, 1] rfl rfl (by decide +kernel) (by decide +kernel) (fun r_3 _ H locs hw_4 hP hD hS => ?_)
  subst r_3
  have hP : va_P D vwCl (wSB K h0 a0 o0) H := hP.sub [0, 1] rfl
  have hD : va_D A (wSB K h0 a0 o0) := hD.sub [0, 1] (by decide +kernel) rfl
  refine lv_icmp_eq (tgt := 21) hx hb dAS_inflateIfNeededFor_14 (by decide) (fun c_5 => ?_) (fun c_5 => ?_)
  · have h := op_t c_5 h
    exact bAS_inflateIfNeededFor_S11_21 C _ _ h hP hD hS (lv_sub hl [] rfl)
  · have h := op_f c_5 h
    refine lv_aload_n hx hb dAS_inflateIfNeededFor_17 rfl (lv_at hl 0 rfl) ?_
    cases h
set_option maxRecDepth 100000 in
theorem mAS_inflateIfNeededFor_S11 (l : Launch) (D : va_G) (K : Nat → ClassId) (sz : Nat) (h0 : Nat) (a0 : Nat → Nat) (o0 : cf_O) (r : Unit) (h : fAS_inflateIfNeededFor_S11 o0 = some r) : Met l yAS_inflateIfNeededFor (Cond.code yAS_inflateIfNeededFor cAS_inflateIfNeededFor 2 (Option.none : Option Jvm.ClassFile.FieldType) :: cfB) ({ frames := 1, cells := 0, slots := 0, locals := 20 }) (va_Pc [.ref h0, .ref (K 111)] (cf_Pre D K sz (wSB K h0 a0 o0))) (va_Qv (fun (_ : Unit) => True) (fun (_ : Unit) t => cf_At D (va_A (wSB K h0 a0 o0) sz) (wSB K h0 a0 o0) t) (va_A (wSB K h0 a0 o0) sz)) 0 0 (va_A (wSB K h0 a0 o0) sz) := by
  refine cf_ofW (y := yAS_inflateIfNeededFor) (As := [.ref h0, .ref (K 111)]) (WS := wSB K h0 a0 o0) (maxL := 2) (fun A => (va_Qv (fun (_ : Unit) => True) (fun (_ : Unit) t => cf_At D A (wSB K h0 a0 o0) t) A)) (by decide) (Nat.le_of_ble_eq_true rfl) ?_
  intro p e s m below meth c A ls En hsz hA hP hD hE hS hl
  have C : (dc_C p s m (([.ref h0, .ref (K 111)] : List Value).toArray) meth c cAS_inflateIfNeededFor 2 (Option.none : Option Jvm.ClassFile.FieldType) yAS_inflateIfNeededFor ∧ cf_E D K A s s.heap ∧ ∀ q, s.heap.size ≤ q → A q) := ⟨En, hE, hA⟩
  exact bAS_inflateIfNeededFor_S11_0 C o0 r h hP hD hS hl
set_option maxRecDepth 100000 in
theorem nJString_getBytes_ABIB_S11_SB0_0 (v2 : Int32) (v3 : Int32) (o0 : cf_O) (r : cf_O) (h : fJString_getBytes_ABIB_S11_SB0_0 v2 v3 o0 = some r) : phSB o0 ≤ phSB r := by
  have hm : phSB o0 ≤ phSB o0 := Nat.le_refl _
  obtain ⟨q_1, hq_1, h⟩ := op_b h
  rcases (Classical.em (q_1 = v3)).symm with c_4 | c_4
  · have h := op_f c_4 h
    cases h
  · have h := op_t c_4 h
    obtain ⟨x_5, ex_5, h⟩ := op_kx h
    obtain ⟨hi_6, h⟩ := op_n h
    obtain ⟨o_7, eo_7, h⟩ := op_kx h
    have hm : phSB o0 ≤ phSB o_7 := by rw [eo_7]; exact hm
    obtain rfl := Option.some.inj h
    exact hm
theorem nJString_getBytes_ABIB_S11_SB0 (v2 : Int32) (v3 : Int32) (o0 : cf_O) (r : cf_O) (h : fJString_getBytes_ABIB_S11_SB0 v2 v3 o0 = some r) : phSB o0 ≤ phSB r := nJString_getBytes_ABIB_S11_SB0_0  v2 v3 o0 r h
set_option maxHeartbeats 4000000 in
set_option maxRecDepth 100000 in
theorem bJString_getBytes_ABIB_S11_SB0_0 {p : Program} {l : Launch} {e : Env} {s : State} {m : MethodId} {below : List Frame} {meth : Method} {c : Code} {A : Nat → Prop} {D : va_G} {K : Nat → ClassId} {h0 : Nat} {a0 : Nat → Nat} {AR : Array Value} (C : (dc_C p s m AR meth c cJString_getBytes_ABIB 4 (Option.none : Option Jvm.ClassFile.FieldType) yJString_getBytes_ABIB ∧ cf_E D K A s s.heap ∧ ∀ q, s.heap.size ≤ q → A q)) (v2 : Int32) (v3 : Int32) (o0 : cf_O) (r : cf_O) (h : fJString_getBytes_ABIB_S11_SB0_0 v2 v3 o0 = some r) {H : Heap} {locs : List Loc} {ls : Array Slot} (hP : va_P D vwCl (wSB K h0 a0 o0) H) (hD : va_D A (wSB K h0 a0 o0)) (hS : va_S A s.heap H locs) (hl : lv_has ls 4 [(0, .ref (K 111)), (1, .ref (a0 0)), (2, .int v2), (3, .int v3)]) : W p l e ({ frames := 1, cells := 0, slots := 0, locals := 60 }) s m AR below meth c H locs 0 0 (MQ below (va_Qv (fun (_ : Unit) => True) (fun (_ : Unit) t => cf_At D A (wSB K h0 a0 r) t) A) AR s 0 0 A) (F0 m 0 ls []) := by
  obtain ⟨⟨hx, hb, hr, hts, hown, hlocks, hin, hml⟩, hE, hA⟩ := id C
  have hK := hE.k
  refine lv_aload_n hx hb dJString_getBytes_ABIB_0 rfl (lv_at hl 0 rfl) ?_
  obtain ⟨q_1, hq_1, h⟩ := op_b h
  refine cf_calli (wc := []) (wr := wSB K h0 a0 o0) (va_runV (As := []) (rest := []) ⟨hx, hb, hml, hown, hts⟩ (mJString_coder__S11 l D K _ _ hq_1) (cwV 0 hts (cf_GV wv_760 wv_761 wv_762 wv_168 wv_763) rfl rfl rfl (by decide +kernel) ⟨Nat.le_of_ble_eq_true rfl, Nat.le_of_ble_eq_true rfl⟩) (cf_preO (wc := []) (hE.s 11 rfl).2.1 hE hP hD hS hA [] rfl (by decide +kernel)) rfl rfl hl.1 rfl (lv_room (Nat.le_of_ble_eq_true rfl)) dJString_getBytes_ABIB_1 ⟨Nat.le_of_ble_eq_true rfl, Nat.le_of_ble_eq_true rfl⟩) hP hD hS hA [] [0, 1] rfl rfl (by decide +kernel) (by decide +kernel) (fun r_2 _ H locs hw_3 hP hD hS => ?_)
  subst r_2
  have hP : va_P D vwCl (wSB K h0 a0 o0) H := hP.sub [0, 1] rfl
  have hD : va_D A (wSB K h0 a0 o0) := hD.sub [0, 1] (by decide +kernel) rfl
  refine lv_iload_n hx hb dJString_getBytes_ABIB_4 rfl (lv_at hl 3 rfl) ?_
  refine lv_icmp_ne (tgt := 28) hx hb dJString_getBytes_ABIB_5 (by decide) (fun c_4 => ?_) (fun c_4 => ?_)
  · have h := op_f c_4 h
    refine lv_aload_n hx hb dJString_getBytes_ABIB_28 rfl (lv_at hl 0 rfl) ?_
    refine vk_getf hx hb (hE.s 11 rfl).2.2.2.1 hS hown (hts _ wv_1735) (fun _ h9 => h9) dJString_getBytes_ABIB_29 ?_
    refine lv_iconst (v := 0) hx hb dJString_getBytes_ABIB_32 (by decide) ?_
    refine lv_aload_n hx hb dJString_getBytes_ABIB_33 rfl (lv_at hl 1 rfl) ?_
    refine lv_iload_n hx hb dJString_getBytes_ABIB_34 rfl (lv_at hl 2 rfl) ?_
    refine lv_aload_n hx hb dJString_getBytes_ABIB_35 rfl (lv_at hl 0 rfl) ?_
    refine vk_getf hx hb (hE.s 11 rfl).2.2.2.1 hS hown (hts _ wv_1735) (fun _ h9 => h9) dJString_getBytes_ABIB_36 ?_
    refine va_tlen (v := 3) hx hb (hE.s 11 rfl).2.2.2.2 hS rfl dJString_getBytes_ABIB_39 ?_
    cases h
  · have h := op_t c_4 h
    refine lv_aload_n hx hb dJString_getBytes_ABIB_8 rfl (lv_at hl 0 rfl) ?_
    refine vk_getf hx hb (hE.s 11 rfl).2.2.2.1 hS hown (hts _ wv_1735) (fun _ h9 => h9) dJString_getBytes_ABIB_9 ?_
    refine lv_iconst (v := 0) hx hb dJString_getBytes_ABIB_12 (by decide) ?_
    refine lv_aload_n hx hb dJString_getBytes_ABIB_13 rfl (lv_at hl 1 rfl) ?_
    refine lv_iload_n hx hb dJString_getBytes_ABIB_14 rfl (lv_at hl 2 rfl) ?_
    refine lv_iload_n hx hb dJString_getBytes_ABIB_15 rfl (lv_at hl 3 rfl) ?_
    refine lv_ishl hx hb dJString_getBytes_ABIB_16 ?_
    refine lv_topi (fun x_5 ex_5 => ?_)
    have h := op_ks ex_5 h
    refine lv_aload_n hx hb dJString_getBytes_ABIB_17 rfl (lv_at hl 0 rfl) ?_
    refine vk_getf hx hb (hE.s 11 rfl).2.2.2.1 hS hown (hts _ wv_1735) (fun _ h9 => h9) dJString_getBytes_ABIB_18 ?_
    refine va_tlen (v := 3) hx hb (hE.s 11 rfl).2.2.2.2 hS rfl dJString_getBytes_ABIB_21 ?_
    obtain ⟨hi_6, h⟩ := op_n h
    refine vk_copyt (D := D) (f := cf_sb 11) hx hb (hml.trans hl.1.symm) hown (hts _ wv_1643) (hts _ wv_1295) (hts _ wv_1294) (hts _ wv_187) hK hP hD hS (hE.s 11 rfl).2.2.2.2 1 2 rfl rfl (by decide) (fun z => hi_6 (Or.inl z)) (by decide) (by decide) (Nat.not_lt.mp (fun z => hi_6 (Or.inr z))) (by decide) (Nat.le_of_ble_eq_true rfl) (Nat.le_of_ble_eq_true rfl) dJString_getBytes_ABIB_22 (fun H locs hP hD hS => ?_)
    have hP : va_P D vwCl (wSB K h0 a0 (cb o0 0 11 x_5 3)) H := hP
    have hD : va_D A (wSB K h0 a0 (cb o0 0 11 x_5 3)) := hD
    obtain ⟨o_7, eo_7, h⟩ := op_kx h
    rw [← eo_7] at hP hD
    refine lv_goto (tgt := 43) hx hb dJString_getBytes_ABIB_25 (by decide) ?_
    obtain rfl := Option.some.inj h
    exact dc_vret hx hb hr hlocks rfl hP hD hS dJString_getBytes_ABIB_43
set_option maxRecDepth 100000 in
theorem mJString_getBytes_ABIB_S11_SB0 (l : Launch) (D : va_G) (K : Nat → ClassId) (sz : Nat) (v2 : Int32) (v3 : Int32) (h0 : Nat) (a0 : Nat → Nat) (o0 : cf_O) (r : cf_O) (h : fJString_getBytes_ABIB_S11_SB0 v2 v3 o0 = some r) : Met l yJString_getBytes_ABIB (Cond.code yJString_getBytes_ABIB cJString_getBytes_ABIB 4 (Option.none : Option Jvm.ClassFile.FieldType) :: cfB) ({ frames := 1, cells := 0, slots := 0, locals := 60 }) (va_Pc [.ref (K 111), .ref (a0 0), .int v2, .int v3] (cf_Pre D K sz (wSB K h0 a0 o0))) (va_Qv (fun (_ : Unit) => True) (fun (_ : Unit) t => cf_At D (va_A (wSB K h0 a0 o0) sz) (wSB K h0 a0 r) t) (va_A (wSB K h0 a0 o0) sz)) 0 0 (va_A (wSB K h0 a0 o0) sz) := by
  refine cf_ofW (y := yJString_getBytes_ABIB) (As := [.ref (K 111), .ref (a0 0), .int v2, .int v3]) (WS := wSB K h0 a0 o0) (maxL := 4) (fun A => (va_Qv (fun (_ : Unit) => True) (fun (_ : Unit) t => cf_At D A (wSB K h0 a0 r) t) A)) (by decide) (Nat.le_of_ble_eq_true rfl) ?_
  intro p e s m below meth c A ls En hsz hA hP hD hE hS hl
  have C : (dc_C p s m (([.ref (K 111), .ref (a0 0), .int v2, .int v3] : List Value).toArray) meth c cJString_getBytes_ABIB 4 (Option.none : Option Jvm.ClassFile.FieldType) yJString_getBytes_ABIB ∧ cf_E D K A s s.heap ∧ ∀ q, s.heap.size ≤ q → A q) := ⟨En, hE, hA⟩
  exact bJString_getBytes_ABIB_S11_SB0_0 C v2 v3 o0 r h hP hD hS hl
set_option maxRecDepth 100000 in
theorem nAS_putStringAt_S11_0 (v1 : Int32) (o0 : cf_O) (r : cf_O) (h : fAS_putStringAt_S11_0 v1 o0 = some r) : phSB o0 ≤ phSB r := by
  have hm : phSB o0 ≤ phSB o0 := Nat.le_refl _
  obtain ⟨q_1, hq_1, h⟩ := op_b h
  obtain ⟨q_3, hq_3, h⟩ := op_b h
  have hm : phSB o0 ≤ phSB q_3 := Nat.le_trans hm (nJString_getBytes_ABIB_S11_SB0 _ _ _ _ hq_3)
  obtain rfl := Option.some.inj h
  exact hm
theorem nAS_putStringAt_S11 (v1 : Int32) (o0 : cf_O) (r : cf_O) (h : fAS_putStringAt_S11 v1 o0 = some r) : phSB o0 ≤ phSB r := nAS_putStringAt_S11_0  v1 o0 r h
set_option maxHeartbeats 4000000 in
set_option maxRecDepth 100000 in
theorem bAS_putStringAt_S11_0 {p : Program} {l : Launch} {e : Env} {s : State} {m : MethodId} {below : List Frame} {meth : Method} {c : Code} {A : Nat → Prop} {D : va_G} {K : Nat → ClassId} {h0 : Nat} {a0 : Nat → Nat} {AR : Array Value} (C : (dc_C p s m AR meth c cAS_putStringAt 3 (Option.none : Option Jvm.ClassFile.FieldType) yAS_putStringAt ∧ cf_E D K A s s.heap ∧ ∀ q, s.heap.size ≤ q → A q)) (v1 : Int32) (o0 : cf_O) (r : cf_O) (h : fAS_putStringAt_S11_0 v1 o0 = some r) {H : Heap} {locs : List Loc} {ls : Array Slot} (hP : va_P D vwCl (wSB K h0 a0 o0) H) (hD : va_D A (wSB K h0 a0 o0)) (hS : va_S A s.heap H locs) (hl : lv_has ls 3 [(0, .ref h0), (1, .int v1), (2, .ref (K 111))]) : W p l e ({ frames := 2, cells := 0, slots := 0, locals := 83 }) s m AR below meth c H locs 0 0 (MQ below (va_Qv (fun (_ : Unit) => True) (fun (_ : Unit) t => cf_At D A (wSB K h0 a0 r) t) A) AR s 0 0 A) (F0 m 0 ls []) := by
  obtain ⟨⟨hx, hb, hr, hts, hown, hlocks, hin, hml⟩, hE, hA⟩ := id C
  have hK := hE.k
  refine lv_aload_n hx hb dAS_putStringAt_0 rfl (lv_at hl 0 rfl) ?_
  refine lv_aload_n hx hb dAS_putStringAt_1 rfl (lv_at hl 2 rfl) ?_
  obtain ⟨q_1, hq_1, h⟩ := op_b h
  refine dc_callv (va_runU (As := [.ref (K 111)]) (rest := []) ⟨hx, hb, hml, hown, hts⟩ (mAS_inflateIfNeededFor_S11 l D K _ h0 a0 o0 _ hq_1) (cf_cwU (C := "java/lang/StringBuilder") 1 hts (cf_G1 wv_1618) rfl rfl rfl (hts _ wv_166) (hts _ wv_1615) (hts _ wv_2793) (va_Nw.use rfl (hE.n 32 rfl)) (hts _ wv_1617) (by decide +kernel) ⟨Nat.le_of_ble_eq_true rfl, Nat.le_of_ble_eq_true rfl⟩) (dc_preV hE hP hD hS hA rfl 0 rfl) rfl rfl hl.1 rfl (lv_room (Nat.le_of_ble_eq_true rfl)) dAS_putStringAt_2 ⟨Nat.le_of_ble_eq_true rfl, Nat.le_of_ble_eq_true rfl⟩) hP hD hS hA (fun H locs hP hD hS => ?_)
  refine lv_aload_n hx hb dAS_putStringAt_5 rfl (lv_at hl 2 rfl) ?_
  refine lv_aload_n hx hb dAS_putStringAt_6 rfl (lv_at hl 0 rfl) ?_
  refine va_get (D := D) (ci := 13) (v := .ref (a0 0)) (C := RSB) (T := TSB) (N := 4) hx hb hts inSB hown hK hP 0 rfl rfl 0 (by decide) (hts _ wv_453) (fun _ h9 => h9) rfl dAS_putStringAt_7 ?_
  refine lv_iload_n hx hb dAS_putStringAt_10 rfl (lv_at hl 1 rfl) ?_
  refine lv_aload_n hx hb dAS_putStringAt_11 rfl (lv_at hl 0 rfl) ?_
  refine va_get (D := D) (ci := 13) (v := .int (o0.1 1)) (C := RSB) (T := TSB) (N := 4) hx hb hts inSB hown hK hP 0 rfl rfl 1 (by decide) (hts _ wv_454) (fun _ h9 => h9) rfl dAS_putStringAt_12 ?_
  obtain ⟨q_3, hq_3, h⟩ := op_b h
  refine cf_callv (wc := wSB K h0 a0 o0) (wr := []) (va_runV (As := [.ref (a0 0), .int v1, .int (o0.1 1)]) (rest := []) ⟨hx, hb, hml, hown, hts⟩ (mJString_getBytes_ABIB_S11_SB0 l D K _ v1 (o0.1 1) h0 a0 o0 _ hq_3) (cwV 3 hts (cf_GV wv_1639 wv_1640 wv_1641 wv_168 wv_1642) rfl rfl rfl (by decide +kernel) ⟨Nat.le_of_ble_eq_true rfl, Nat.le_of_ble_eq_true rfl⟩) (cf_preO (wc := wSB K h0 a0 o0) (hE.s 11 rfl).2.1 hE hP hD hS hA [0, 1] rfl (by decide +kernel)) rfl rfl hl.1 rfl (lv_room (Nat.le_of_ble_eq_true rfl)) dAS_putStringAt_15 ⟨Nat.le_of_ble_eq_true rfl, Nat.le_of_ble_eq_true rfl⟩) hP hD hS hA [0, 1] [] rfl rfl (by decide +kernel) (by decide +kernel) (fun _ H locs hw_4 hP hD hS => ?_)
  have hP : va_P D vwCl (wSB K h0 a0 q_3) H := hP.sub [0, 1] rfl
  have hD : va_D A (wSB K h0 a0 q_3) := hD.sub [0, 1] (by decide +kernel) rfl
  obtain rfl := Option.some.inj h
  exact dc_vret hx hb hr hlocks rfl hP hD hS dAS_putStringAt_18
set_option maxRecDepth 100000 in
theorem mAS_putStringAt_S11 (l : Launch) (D : va_G) (K : Nat → ClassId) (sz : Nat) (v1 : Int32) (h0 : Nat) (a0 : Nat → Nat) (o0 : cf_O) (r : cf_O) (h : fAS_putStringAt_S11 v1 o0 = some r) : Met l yAS_putStringAt (Cond.code yAS_putStringAt cAS_putStringAt 3 (Option.none : Option Jvm.ClassFile.FieldType) :: cfB) ({ frames := 2, cells := 0, slots := 0, locals := 83 }) (va_Pc [.ref h0, .int v1, .ref (K 111)] (cf_Pre D K sz (wSB K h0 a0 o0))) (va_Qv (fun (_ : Unit) => True) (fun (_ : Unit) t => cf_At D (va_A (wSB K h0 a0 o0) sz) (wSB K h0 a0 r) t) (va_A (wSB K h0 a0 o0) sz)) 0 0 (va_A (wSB K h0 a0 o0) sz) := by
  refine cf_ofW (y := yAS_putStringAt) (As := [.ref h0, .int v1, .ref (K 111)]) (WS := wSB K h0 a0 o0) (maxL := 3) (fun A => (va_Qv (fun (_ : Unit) => True) (fun (_ : Unit) t => cf_At D A (wSB K h0 a0 r) t) A)) (by decide) (Nat.le_of_ble_eq_true rfl) ?_
  intro p e s m below meth c A ls En hsz hA hP hD hE hS hl
  have C : (dc_C p s m (([.ref h0, .int v1, .ref (K 111)] : List Value).toArray) meth c cAS_putStringAt 3 (Option.none : Option Jvm.ClassFile.FieldType) yAS_putStringAt ∧ cf_E D K A s s.heap ∧ ∀ q, s.heap.size ≤ q → A q) := ⟨En, hE, hA⟩
  exact bAS_putStringAt_S11_0 C v1 o0 r h hP hD hS hl
set_option maxRecDepth 100000 in
theorem nAS_appendS_S11_33 (v2 : Int32) (o0 : cf_O) (r : cf_O) (h : fAS_appendS_S11_33 v2 o0 = some r) : phSB o0 ≤ phSB r := by
  have hm : phSB o0 ≤ phSB o0 := Nat.le_refl _
  obtain ⟨x_1, ex_1, h⟩ := op_kx h
  obtain ⟨o_2, eo_2, h⟩ := op_kx h
  have hm : phSB o0 ≤ phSB o_2 := by rw [eo_2]; exact hm
  obtain rfl := Option.some.inj h
  exact hm
set_option maxRecDepth 100000 in
theorem nAS_appendS_S11_24 (v2 : Int32) (o0 : cf_O) (r : cf_O) (h : fAS_appendS_S11_24 v2 o0 = some r) : phSB o0 ≤ phSB r := by
  have hm : phSB o0 ≤ phSB o0 := Nat.le_refl _
  obtain ⟨q_1, hq_1, h⟩ := op_b h
  have hm : phSB o0 ≤ phSB q_1 := Nat.le_trans hm (nAS_putStringAt_S11 _ _ _ hq_1)
  exact Nat.le_trans hm (nAS_appendS_S11_33 _ _ _ h)
set_option maxRecDepth 100000 in
theorem nAS_appendS_S11_13 (s0 : Int32) (o0 : cf_O) (r : cf_O) (h : fAS_appendS_S11_13 s0 o0 = some r) : phSB o0 ≤ phSB r := by
  have hm : phSB o0 ≤ phSB o0 := Nat.le_refl _
  obtain ⟨x_1, ex_1, h⟩ := op_kx h
  obtain ⟨q_2, hq_2, h⟩ := op_b h
  have hm : phSB o0 ≤ phSB q_2 := Nat.le_trans hm (nAS_ensureCapacityInternal _ _ _ hq_2)
  exact Nat.le_trans hm (nAS_appendS_S11_24 _ _ _ h)
set_option maxRecDepth 100000 in
theorem nAS_appendS_S11_0 (o0 : cf_O) (r : cf_O) (h : fAS_appendS_S11_0 o0 = some r) : phSB o0 ≤ phSB r := by
  have hm : phSB o0 ≤ phSB o0 := Nat.le_refl _
  obtain ⟨q_1, hq_1, h⟩ := op_b h
  exact Nat.le_trans hm (nAS_appendS_S11_13 _ _ _ h)
theorem nAS_appendS_S11 (o0 : cf_O) (r : cf_O) (h : fAS_appendS_S11 o0 = some r) : phSB o0 ≤ phSB r := nAS_appendS_S11_0  o0 r h
set_option maxHeartbeats 4000000 in
set_option maxRecDepth 100000 in
theorem bAS_appendS_S11_33 {p : Program} {l : Launch} {e : Env} {s : State} {m : MethodId} {below : List Frame} {meth : Method} {c : Code} {A : Nat → Prop} {D : va_G} {K : Nat → ClassId} {h0 : Nat} {os : cf_O} {AR : Array Value} (C : (dc_C p s m AR meth c cAS_appendS 3 (Option.some (Jvm.ClassFile.FieldType.object "java/lang/AbstractStringBuilder")) yAS_appendS ∧ cf_E D K A s s.heap ∧ ∀ q, s.heap.size ≤ q → A q)) (v2 : Int32) (o0 : cf_O) (r : cf_O) (h : fAS_appendS_S11_33 v2 o0 = some r) {a0 : Nat → Nat} {H : Heap} {locs : List Loc} {ls : Array Slot} (hg : phSB os ≤ phSB o0) (hP : va_P D vwCl (wSB K h0 a0 o0) H) (hD : va_D A (wSB K h0 a0 o0)) (hS : va_S A s.heap H locs) (hl : lv_has ls 3 [(0, .ref h0), (2, .int v2)]) : W p l e ({ frames := 4, cells := (gC (phSB os) (phSB r)), slots := (gS (phSB os) (phSB r)), locals := 124 }) s m AR below meth c H locs (gC (phSB os) (phSB o0)) (gS (phSB os) (phSB o0)) (MQ below (va_Qr (fun (_ : Nat → Nat) => True) (fun (u : Nat → Nat) q t => cf_At D A (wSB K h0 u r) t ∧ q = h0) A) AR s (gC (phSB os) (phSB r)) (gS (phSB os) (phSB r)) A) (F0 m 33 ls []) := by
  obtain ⟨⟨hx, hb, hr, hts, hown, hlocks, hin, hml⟩, hE, hA⟩ := id C
  have hK := hE.k
  refine lv_aload_n hx hb dAS_appendS_33 rfl (lv_at hl 0 rfl) ?_
  refine lv_dup hx hb dAS_appendS_34 rfl ?_
  refine va_get (D := D) (ci := 13) (v := .int (o0.1 3)) (C := RSB) (T := TSB) (N := 4) hx hb hts inSB hown hK hP 0 rfl rfl 3 (by decide) (hts _ wv_457) (fun _ h9 => h9) rfl dAS_appendS_35 ?_
  refine lv_iload_n hx hb dAS_appendS_38 rfl (lv_at hl 1 rfl) ?_
  refine lv_iadd hx hb dAS_appendS_39 ?_
  refine lv_topi (fun x_1 ex_1 => ?_)
  have h := op_ks ex_1 h
  refine va_put (D := D) (ci := 13) (v := .int x_1) (ty := .int) (C := RSB) (T := TSB) (N := 4) hx hb hts inSB tySB tyokSB nmSB hown hK hP hD hS 0 rfl rfl 3 (by decide) (hts _ wv_457) (fun _ h9 => h9) rfl (by decide +kernel) rfl rfl (Nat.le_of_ble_eq_true rfl) dAS_appendS_40 (fun H locs hP hD hS => ?_)
  have hP : va_P D vwCl (wSB K h0 a0 (fp o0 3 x_1)) H := hP
  have hD : va_D A (wSB K h0 a0 (fp o0 3 x_1)) := hD
  obtain ⟨o_2, eo_2, h⟩ := op_kx h
  rw [← eo_2] at hP hD
  have hf_3 : phSB o_2 = phSB o0 := by rw [eo_2]; rfl
  refine W.widen (k := (gC (phSB os) (phSB o_2))) (n := (gS (phSB os) (phSB o_2))) (by rw [hf_3]; exact Nat.le_refl _) (by rw [hf_3]; exact Nat.le_refl _) ?_
  have hg : phSB os ≤ phSB o_2 := by rw [hf_3]; exact hg
  refine lv_aload_n hx hb dAS_appendS_43 rfl (lv_at hl 0 rfl) ?_
  obtain rfl := Option.some.inj h
  exact dc_aretG a0 hx hb hr ⟨_, rfl⟩ hlocks hP hD hS dAS_appendS_44
set_option maxHeartbeats 4000000 in
set_option maxRecDepth 100000 in
theorem bAS_appendS_S11_24 {p : Program} {l : Launch} {e : Env} {s : State} {m : MethodId} {below : List Frame} {meth : Method} {c : Code} {A : Nat → Prop} {D : va_G} {K : Nat → ClassId} {h0 : Nat} {os : cf_O} {AR : Array Value} (C : (dc_C p s m AR meth c cAS_appendS 3 (Option.some (Jvm.ClassFile.FieldType.object "java/lang/AbstractStringBuilder")) yAS_appendS ∧ cf_E D K A s s.heap ∧ ∀ q, s.heap.size ≤ q → A q)) (v2 : Int32) (o0 : cf_O) (r : cf_O) (h : fAS_appendS_S11_24 v2 o0 = some r) {a0 : Nat → Nat} {H : Heap} {locs : List Loc} {ls : Array Slot} (hg : phSB os ≤ phSB o0) (hP : va_P D vwCl (wSB K h0 a0 o0) H) (hD : va_D A (wSB K h0 a0 o0)) (hS : va_S A s.heap H locs) (hl : lv_has ls 3 [(0, .ref h0), (1, .ref (K 111)), (2, .int v2)]) : W p l e ({ frames := 4, cells := (gC (phSB os) (phSB r)), slots := (gS (phSB os) (phSB r)), locals := 124 }) s m AR below meth c H locs (gC (phSB os) (phSB o0)) (gS (phSB os) (phSB o0)) (MQ below (va_Qr (fun (_ : Nat → Nat) => True) (fun (u : Nat → Nat) q t => cf_At D A (wSB K h0 u r) t ∧ q = h0) A) AR s (gC (phSB os) (phSB r)) (gS (phSB os) (phSB r)) A) (F0 m 24 ls []) := by
  obtain ⟨⟨hx, hb, hr, hts, hown, hlocks, hin, hml⟩, hE, hA⟩ := id C
  have hK := hE.k
  refine lv_aload_n hx hb dAS_appendS_24 rfl (lv_at hl 0 rfl) ?_
  refine lv_aload_n hx hb dAS_appendS_25 rfl (lv_at hl 0 rfl) ?_
  refine va_get (D := D) (ci := 13) (v := .int (o0.1 3)) (C := RSB) (T := TSB) (N := 4) hx hb hts inSB hown hK hP 0 rfl rfl 3 (by decide) (hts _ wv_457) (fun _ h9 => h9) rfl dAS_appendS_26 ?_
  refine lv_aload_n hx hb dAS_appendS_29 rfl (lv_at hl 1 rfl) ?_
  obtain ⟨q_1, hq_1, h⟩ := op_b h
  have hgr_2 : phSB q_1 ≤ phSB r := nAS_appendS_S11_33 _ _ _ h
  have hg2_3 : phSB o0 ≤ phSB q_1 := nAS_putStringAt_S11 _ _ _ hq_1
  refine dc_callv (va_runU (As := [.int (o0.1 3), .ref (K 111)]) (rest := []) ⟨hx, hb, hml, hown, hts⟩ (mAS_putStringAt_S11 l D K _ (o0.1 3) h0 a0 o0 _ hq_1) (cf_cwU (C := "java/lang/StringBuilder") 2 hts (cf_G1 wv_1614) rfl rfl rfl (hts _ wv_166) (hts _ wv_1611) (hts _ wv_2792) (va_Nw.use rfl (hE.n 31 rfl)) (hts _ wv_1613) (by decide +kernel) ⟨Nat.le_of_ble_eq_true rfl, Nat.le_of_ble_eq_true rfl⟩) (dc_preV hE hP hD hS hA rfl 0 rfl) rfl rfl hl.1 rfl (lv_room (Nat.le_of_ble_eq_true rfl)) dAS_appendS_30 ⟨gC_le (Nat.le_trans hg2_3 hgr_2), gS_le (Nat.le_trans hg2_3 hgr_2)⟩) hP hD hS hA (fun H locs hP hD hS => ?_)
  refine W.widen (k := (gC (phSB os) (phSB q_1))) (n := (gS (phSB os) (phSB q_1))) (gC_le hg2_3) (gS_le hg2_3) ?_
  have hg : phSB os ≤ phSB q_1 := Nat.le_trans hg hg2_3
  exact bAS_appendS_S11_33 C _ _ _ h hg hP hD hS (lv_sub hl [0, 2] rfl)
set_option maxHeartbeats 4000000 in
set_option maxRecDepth 100000 in
theorem bAS_appendS_S11_13 {p : Program} {l : Launch} {e : Env} {s : State} {m : MethodId} {below : List Frame} {meth : Method} {c : Code} {A : Nat → Prop} {D : va_G} {K : Nat → ClassId} {h0 : Nat} {os : cf_O} {AR : Array Value} (C : (dc_C p s m AR meth c cAS_appendS 3 (Option.some (Jvm.ClassFile.FieldType.object "java/lang/AbstractStringBuilder")) yAS_appendS ∧ cf_E D K A s s.heap ∧ ∀ q, s.heap.size ≤ q → A q)) (s0 : Int32) (o0 : cf_O) (r : cf_O) (h : fAS_appendS_S11_13 s0 o0 = some r) {a0 : Nat → Nat} {H : Heap} {locs : List Loc} {ls : Array Slot} (hg : phSB os ≤ phSB o0) (hP : va_P D vwCl (wSB K h0 a0 o0) H) (hD : va_D A (wSB K h0 a0 o0)) (hS : va_S A s.heap H locs) (hl : lv_has ls 3 [(0, .ref h0), (1, .ref (K 111))]) : W p l e ({ frames := 4, cells := (gC (phSB os) (phSB r)), slots := (gS (phSB os) (phSB r)), locals := 124 }) s m AR below meth c H locs (gC (phSB os) (phSB o0)) (gS (phSB os) (phSB o0)) (MQ below (va_Qr (fun (_ : Nat → Nat) => True) (fun (u : Nat → Nat) q t => cf_At D A (wSB K h0 u r) t ∧ q = h0) A) AR s (gC (phSB os) (phSB r)) (gS (phSB os) (phSB r)) A) (F0 m 13 ls [.int s0]) := by
  obtain ⟨⟨hx, hb, hr, hts, hown, hlocks, hin, hml⟩, hE, hA⟩ := id C
  have hK := hE.k
  refine lv_istore_n (lv' := [(2, .int s0), (0, .ref h0), (1, .ref (K 111))]) hx hb dAS_appendS_13 rfl hl (by decide) rfl (fun ls hl => ?_)
  refine lv_aload_n hx hb dAS_appendS_14 rfl (lv_at hl 1 rfl) ?_
  refine lv_aload_n hx hb dAS_appendS_15 rfl (lv_at hl 1 rfl) ?_
  refine va_get (D := D) (ci := 13) (v := .int (o0.1 3)) (C := RSB) (T := TSB) (N := 4) hx hb hts inSB hown hK hP 0 rfl rfl 3 (by decide) (hts _ wv_457) (fun _ h9 => h9) rfl dAS_appendS_16 ?_
  refine lv_iload_n hx hb dAS_appendS_19 rfl (lv_at hl 0 rfl) ?_
  refine lv_iadd hx hb dAS_appendS_20 ?_
  refine lv_topi (fun x_1 ex_1 => ?_)
  have h := op_ks ex_1 h
  obtain ⟨q_2, hq_2, h⟩ := op_b h
  have hgr_3 : phSB q_2 ≤ phSB r := nAS_appendS_S11_24 _ _ _ h
  have hg2_4 : phSB o0 ≤ phSB q_2 := nAS_ensureCapacityInternal _ _ _ hq_2
  refine cf_callv (wc := wSB K h0 a0 o0) (wr := []) (va_runU (As := [.int x_1]) (rest := []) ⟨hx, hb, hml, hown, hts⟩ (mAS_ensureCapacityInternal l D K _ x_1 h0 a0 o0 _ hq_2) (cf_cwU (C := "java/lang/StringBuilder") 1 hts (cf_G1 wv_1568) rfl rfl rfl (hts _ wv_166) (hts _ wv_1565) (hts _ wv_2790) (va_Nw.use rfl (hE.n 29 rfl)) (hts _ wv_1567) (by decide +kernel) ⟨Nat.le_of_ble_eq_true rfl, Nat.le_of_ble_eq_true rfl⟩) (cf_preV (wc := wSB K h0 a0 o0) hE hP hD hS hA rfl 0 rfl [0, 1] rfl (by decide +kernel)) rfl rfl hl.1 rfl (lv_room (Nat.le_of_ble_eq_true rfl)) dAS_appendS_21 ⟨Nat.le_trans (gC_add hg hg2_4) (gC_le hgr_3), Nat.le_trans (gS_add hg hg2_4) (gS_le hgr_3)⟩) hP hD hS hA [0, 1] [] rfl rfl (by decide +kernel) (by decide +kernel) (fun a0_6 H locs hw_5 hP hD hS => ?_)
  have hP : va_P D vwCl (wSB K h0 a0_6 q_2) H := hP.sub [0, 1] rfl
  have hD : va_D A (wSB K h0 a0_6 q_2) := hD.sub [0, 1] (by decide +kernel) rfl
  refine W.widen (k := (gC (phSB os) (phSB q_2))) (n := (gS (phSB os) (phSB q_2))) (gC_add hg hg2_4) (gS_add hg hg2_4) ?_
  have hg : phSB os ≤ phSB q_2 := Nat.le_trans hg hg2_4
  exact bAS_appendS_S11_24 C _ _ _ h hg hP hD hS (lv_sub hl [1, 2, 0] rfl)
set_option maxHeartbeats 4000000 in
set_option maxRecDepth 100000 in
theorem bAS_appendS_S11_0 {p : Program} {l : Launch} {e : Env} {s : State} {m : MethodId} {below : List Frame} {meth : Method} {c : Code} {A : Nat → Prop} {D : va_G} {K : Nat → ClassId} {h0 : Nat} {os : cf_O} {AR : Array Value} (C : (dc_C p s m AR meth c cAS_appendS 3 (Option.some (Jvm.ClassFile.FieldType.object "java/lang/AbstractStringBuilder")) yAS_appendS ∧ cf_E D K A s s.heap ∧ ∀ q, s.heap.size ≤ q → A q)) (o0 : cf_O) (r : cf_O) (h : fAS_appendS_S11_0 o0 = some r) {a0 : Nat → Nat} {H : Heap} {locs : List Loc} {ls : Array Slot} (hg : phSB os ≤ phSB o0) (hP : va_P D vwCl (wSB K h0 a0 o0) H) (hD : va_D A (wSB K h0 a0 o0)) (hS : va_S A s.heap H locs) (hl : lv_has ls 3 [(0, .ref h0), (1, .ref (K 111))]) : W p l e ({ frames := 4, cells := (gC (phSB os) (phSB r)), slots := (gS (phSB os) (phSB r)), locals := 124 }) s m AR below meth c H locs (gC (phSB os) (phSB o0)) (gS (phSB os) (phSB o0)) (MQ below (va_Qr (fun (_ : Nat → Nat) => True) (fun (u : Nat → Nat) q t => cf_At D A (wSB K h0 u r) t ∧ q = h0) A) AR s (gC (phSB os) (phSB r)) (gS (phSB os) (phSB r)) A) (F0 m 0 ls []) := by
  obtain ⟨⟨hx, hb, hr, hts, hown, hlocks, hin, hml⟩, hE, hA⟩ := id C
  have hK := hE.k
  refine lv_aload_n hx hb dAS_appendS_0 rfl (lv_at hl 1 rfl) ?_
  refine lv_ifnonnull (tgt := 9) hx hb dAS_appendS_1 (by decide) ?_
  refine lv_aload_n hx hb dAS_appendS_9 rfl (lv_at hl 1 rfl) ?_
  obtain ⟨q_1, hq_1, h⟩ := op_b h
  have hgr_2 : phSB o0 ≤ phSB r := nAS_appendS_S11_13 _ _ _ h
  refine cf_calli (wc := []) (wr := wSB K h0 a0 o0) (va_runV (As := []) (rest := []) ⟨hx, hb, hml, hown, hts⟩ (mJString_length__S11 l D K _ _ hq_1) (cwV 0 hts (cf_GV wv_1610 wv_757 wv_758 wv_168 wv_759) rfl rfl rfl (by decide +kernel) ⟨Nat.le_of_ble_eq_true rfl, Nat.le_of_ble_eq_true rfl⟩) (cf_preO (wc := []) (hE.s 11 rfl).2.1 hE hP hD hS hA [] rfl (by decide +kernel)) rfl rfl hl.1 rfl (lv_room (Nat.le_of_ble_eq_true rfl)) dAS_appendS_10 ⟨gC_le hgr_2, gS_le hgr_2⟩) hP hD hS hA [] [0, 1] rfl rfl (by decide +kernel) (by decide +kernel) (fun r_4 _ H locs hw_5 hP hD hS => ?_)
  subst r_4
  have hP : va_P D vwCl (wSB K h0 a0 o0) H := hP.sub [0, 1] rfl
  have hD : va_D A (wSB K h0 a0 o0) := hD.sub [0, 1] (by decide +kernel) rfl
  refine W.widen (k := (gC (phSB os) (phSB o0))) (n := (gS (phSB os) (phSB o0))) (Nat.le_refl _) (Nat.le_refl _) ?_
  exact bAS_appendS_S11_13 C _ _ _ h hg hP hD hS (lv_sub hl [0, 1] rfl)
set_option maxRecDepth 100000 in
theorem mAS_appendS_S11 (l : Launch) (D : va_G) (K : Nat → ClassId) (sz : Nat) (h0 : Nat) (a0 : Nat → Nat) (o0 : cf_O) (r : cf_O) (h : fAS_appendS_S11 o0 = some r) : Met l yAS_appendS (Cond.code yAS_appendS cAS_appendS 3 (Option.some (Jvm.ClassFile.FieldType.object "java/lang/AbstractStringBuilder")) :: cfB) ({ frames := 4, cells := (gC (phSB o0) (phSB r)), slots := (gS (phSB o0) (phSB r)), locals := 124 }) (va_Pc [.ref h0, .ref (K 111)] (cf_Pre D K sz (wSB K h0 a0 o0))) (va_Qr (fun (_ : Nat → Nat) => True) (fun (u : Nat → Nat) q t => cf_At D (va_A (wSB K h0 a0 o0) sz) (wSB K h0 u r) t ∧ q = h0) (va_A (wSB K h0 a0 o0) sz)) (gC (phSB o0) (phSB r)) (gS (phSB o0) (phSB r)) (va_A (wSB K h0 a0 o0) sz) := by
  refine cf_ofW (y := yAS_appendS) (As := [.ref h0, .ref (K 111)]) (WS := wSB K h0 a0 o0) (maxL := 3) (fun A => (va_Qr (fun (_ : Nat → Nat) => True) (fun (u : Nat → Nat) q t => cf_At D A (wSB K h0 u r) t ∧ q = h0) A)) (by decide) (Nat.le_of_ble_eq_true rfl) ?_
  intro p e s m below meth c A ls En hsz hA hP hD hE hS hl
  have C : (dc_C p s m (([.ref h0, .ref (K 111)] : List Value).toArray) meth c cAS_appendS 3 (Option.some (Jvm.ClassFile.FieldType.object "java/lang/AbstractStringBuilder")) yAS_appendS ∧ cf_E D K A s s.heap ∧ ∀ q, s.heap.size ≤ q → A q) := ⟨En, hE, hA⟩
  refine W.widen (k := gC (phSB o0) (phSB o0)) (n := gS (phSB o0) (phSB o0)) (Nat.zero_le _) (Nat.zero_le _) ?_
  exact bAS_appendS_S11_0 C o0 r h (Nat.le_refl _) hP hD hS hl
set_option maxRecDepth 100000 in
theorem nSB_appendS_S11_5 (o0 : cf_O) (r : cf_O) (h : fSB_appendS_S11_5 o0 = some r) : phSB o0 ≤ phSB r := by
  have hm : phSB o0 ≤ phSB o0 := Nat.le_refl _
  obtain rfl := Option.some.inj h
  exact hm
set_option maxRecDepth 100000 in
theorem nSB_appendS_S11_0 (o0 : cf_O) (r : cf_O) (h : fSB_appendS_S11_0 o0 = some r) : phSB o0 ≤ phSB r := by
  have hm : phSB o0 ≤ phSB o0 := Nat.le_refl _
  obtain ⟨q_1, hq_1, h⟩ := op_b h
  have hm : phSB o0 ≤ phSB q_1 := Nat.le_trans hm (nAS_appendS_S11 _ _ hq_1)
  exact Nat.le_trans hm (nSB_appendS_S11_5 _ _ h)
theorem nSB_appendS_S11 (o0 : cf_O) (r : cf_O) (h : fSB_appendS_S11 o0 = some r) : phSB o0 ≤ phSB r := nSB_appendS_S11_0  o0 r h
set_option maxHeartbeats 4000000 in
set_option maxRecDepth 100000 in
theorem bSB_appendS_S11_5 {p : Program} {l : Launch} {e : Env} {s : State} {m : MethodId} {below : List Frame} {meth : Method} {c : Code} {A : Nat → Prop} {D : va_G} {K : Nat → ClassId} {h0 : Nat} {os : cf_O} {AR : Array Value} (C : (dc_C p s m AR meth c cSB_appendS 2 (Option.some (Jvm.ClassFile.FieldType.object "java/lang/StringBuilder")) ySB_appendS ∧ cf_E D K A s s.heap ∧ ∀ q, s.heap.size ≤ q → A q)) (o0 : cf_O) (r : cf_O) (h : fSB_appendS_S11_5 o0 = some r) {a0 : Nat → Nat} {H : Heap} {locs : List Loc} {ls : Array Slot} (hg : phSB os ≤ phSB o0) (hP : va_P D vwCl (wSB K h0 a0 o0) H) (hD : va_D A (wSB K h0 a0 o0)) (hS : va_S A s.heap H locs) (hl : lv_has ls 2 [(0, .ref h0)]) : W p l e ({ frames := 5, cells := (gC (phSB os) (phSB r)), slots := (gS (phSB os) (phSB r)), locals := 146 }) s m AR below meth c H locs (gC (phSB os) (phSB o0)) (gS (phSB os) (phSB o0)) (MQ below (va_Qr (fun (_ : Nat → Nat) => True) (fun (u : Nat → Nat) q t => cf_At D A (wSB K h0 u r) t ∧ q = h0) A) AR s (gC (phSB os) (phSB r)) (gS (phSB os) (phSB r)) A) (F0 m 5 ls [.ref h0]) := by
  obtain ⟨⟨hx, hb, hr, hts, hown, hlocks, hin, hml⟩, hE, hA⟩ := id C
  have hK := hE.k
  refine lv_pop hx hb dSB_appendS_5 rfl ?_
  refine lv_aload_n hx hb dSB_appendS_6 rfl (lv_at hl 0 rfl) ?_
  obtain rfl := Option.some.inj h
  exact dc_aretG a0 hx hb hr ⟨_, rfl⟩ hlocks hP hD hS dSB_appendS_7
set_option maxHeartbeats 4000000 in
set_option maxRecDepth 100000 in
theorem bSB_appendS_S11_0 {p : Program} {l : Launch} {e : Env} {s : State} {m : MethodId} {below : List Frame} {meth : Method} {c : Code} {A : Nat → Prop} {D : va_G} {K : Nat → ClassId} {h0 : Nat} {os : cf_O} {AR : Array Value} (C : (dc_C p s m AR meth c cSB_appendS 2 (Option.some (Jvm.ClassFile.FieldType.object "java/lang/StringBuilder")) ySB_appendS ∧ cf_E D K A s s.heap ∧ ∀ q, s.heap.size ≤ q → A q)) (o0 : cf_O) (r : cf_O) (h : fSB_appendS_S11_0 o0 = some r) {a0 : Nat → Nat} {H : Heap} {locs : List Loc} {ls : Array Slot} (hg : phSB os ≤ phSB o0) (hP : va_P D vwCl (wSB K h0 a0 o0) H) (hD : va_D A (wSB K h0 a0 o0)) (hS : va_S A s.heap H locs) (hl : lv_has ls 2 [(0, .ref h0), (1, .ref (K 111))]) : W p l e ({ frames := 5, cells := (gC (phSB os) (phSB r)), slots := (gS (phSB os) (phSB r)), locals := 146 }) s m AR below meth c H locs (gC (phSB os) (phSB o0)) (gS (phSB os) (phSB o0)) (MQ below (va_Qr (fun (_ : Nat → Nat) => True) (fun (u : Nat → Nat) q t => cf_At D A (wSB K h0 u r) t ∧ q = h0) A) AR s (gC (phSB os) (phSB r)) (gS (phSB os) (phSB r)) A) (F0 m 0 ls []) := by
  obtain ⟨⟨hx, hb, hr, hts, hown, hlocks, hin, hml⟩, hE, hA⟩ := id C
  have hK := hE.k
  refine lv_aload_n hx hb dSB_appendS_0 rfl (lv_at hl 0 rfl) ?_
  refine lv_aload_n hx hb dSB_appendS_1 rfl (lv_at hl 1 rfl) ?_
  obtain ⟨q_1, hq_1, h⟩ := op_b h
  have hgr_2 : phSB q_1 ≤ phSB r := nSB_appendS_S11_5 _ _ h
  have hg2_3 : phSB o0 ≤ phSB q_1 := nAS_appendS_S11 _ _ hq_1
  refine cf_callR (wc := wSB K h0 a0 o0) (wr := []) (va_runSU (hK.1 13 _ rfl).2 (As := [.ref (K 111)]) (rest := []) ⟨hx, hb, hml, hown, hts⟩ (mAS_appendS_S11 l D K _ h0 a0 o0 _ hq_1) (cf_cwSU 1 hts (cf_G1 wv_1560) rfl rfl rfl (hts _ wv_1558) (hts _ wv_2788) (hts _ wv_466) (hts _ wv_1559) (hts _ wv_166) (by decide +kernel) ⟨Nat.le_of_ble_eq_true rfl, Nat.le_of_ble_eq_true rfl⟩) (cf_preV (wc := wSB K h0 a0 o0) hE hP hD hS hA rfl 0 rfl [0, 1] rfl (by decide +kernel)) rfl rfl hl.1 rfl (lv_room (Nat.le_of_ble_eq_true rfl)) dSB_appendS_2 ⟨Nat.le_trans (gC_add hg hg2_3) (gC_le hgr_2), Nat.le_trans (gS_add hg hg2_3) (gS_le hgr_2)⟩) hP hD hS hA [0, 1] [] rfl rfl (by decide +kernel) (by decide +kernel) (fun a0_5 H locs hw_4 hP hD hS => ?_)
  have hP : va_P D vwCl (wSB K h0 a0_5 q_1) H := hP.sub [0, 1] rfl
  have hD : va_D A (wSB K h0 a0_5 q_1) := hD.sub [0, 1] (by decide +kernel) rfl
  refine W.widen (k := (gC (phSB os) (phSB q_1))) (n := (gS (phSB os) (phSB q_1))) (gC_add hg hg2_3) (gS_add hg hg2_3) ?_
  have hg : phSB os ≤ phSB q_1 := Nat.le_trans hg hg2_3
  exact bSB_appendS_S11_5 C _ _ h hg hP hD hS (lv_sub hl [0] rfl)
set_option maxRecDepth 100000 in
theorem mSB_appendS_S11 (l : Launch) (D : va_G) (K : Nat → ClassId) (sz : Nat) (h0 : Nat) (a0 : Nat → Nat) (o0 : cf_O) (r : cf_O) (h : fSB_appendS_S11 o0 = some r) : Met l ySB_appendS (Cond.code ySB_appendS cSB_appendS 2 (Option.some (Jvm.ClassFile.FieldType.object "java/lang/StringBuilder")) :: cfB) ({ frames := 5, cells := (gC (phSB o0) (phSB r)), slots := (gS (phSB o0) (phSB r)), locals := 146 }) (va_Pc [.ref h0, .ref (K 111)] (cf_Pre D K sz (wSB K h0 a0 o0))) (va_Qr (fun (_ : Nat → Nat) => True) (fun (u : Nat → Nat) q t => cf_At D (va_A (wSB K h0 a0 o0) sz) (wSB K h0 u r) t ∧ q = h0) (va_A (wSB K h0 a0 o0) sz)) (gC (phSB o0) (phSB r)) (gS (phSB o0) (phSB r)) (va_A (wSB K h0 a0 o0) sz) := by
  refine cf_ofW (y := ySB_appendS) (As := [.ref h0, .ref (K 111)]) (WS := wSB K h0 a0 o0) (maxL := 2) (fun A => (va_Qr (fun (_ : Nat → Nat) => True) (fun (u : Nat → Nat) q t => cf_At D A (wSB K h0 u r) t ∧ q = h0) A)) (by decide) (Nat.le_of_ble_eq_true rfl) ?_
  intro p e s m below meth c A ls En hsz hA hP hD hE hS hl
  have C : (dc_C p s m (([.ref h0, .ref (K 111)] : List Value).toArray) meth c cSB_appendS 2 (Option.some (Jvm.ClassFile.FieldType.object "java/lang/StringBuilder")) ySB_appendS ∧ cf_E D K A s s.heap ∧ ∀ q, s.heap.size ≤ q → A q) := ⟨En, hE, hA⟩
  refine W.widen (k := gC (phSB o0) (phSB o0)) (n := gS (phSB o0) (phSB o0)) (Nat.zero_le _) (Nat.zero_le _) ?_
  exact bSB_appendS_S11_0 C o0 r h (Nat.le_refl _) hP hD hS hl
def NICv_writeRows (n : Nat) : Prop := (∀ (v1 : Int32) (v2 : Int32) (v3 : Int32) (o0 : cf_O) (o1 : cf_O) (r : cf_O), gCv_writeRows n 0 v1 v2 v3 0 o0 o1 = some r → phSB o1 ≤ phSB r) ∧ (∀ (v1 : Int32) (v2 : Int32) (v3 : Int32) (v4 : Int32) (o0 : cf_O) (o1 : cf_O) (r : cf_O), gCv_writeRows n 1 v1 v2 v3 v4 o0 o1 = some r → phSB o1 ≤ phSB r)
set_option maxRecDepth 100000 in
theorem nCv_writeRows_69 {n : Nat} (ih : NICv_writeRows n) (v1 : Int32) (v2 : Int32) (v3 : Int32) (o0 : cf_O) (o1 : cf_O) (r : cf_O) (h : fCv_writeRows_69 (gCv_writeRows n) v1 v2 v3 o0 o1 = some r) : phSB o1 ≤ phSB r := by
  have hm : phSB o1 ≤ phSB o1 := Nat.le_refl _
  obtain ⟨x_1, ex_1, h⟩ := op_kx h
  exact Nat.le_trans hm ((ih.1) _ _ _ _ _ _ h)
set_option maxRecDepth 100000 in
theorem nCv_writeRows_68 {n : Nat} (ih : NICv_writeRows n) (v1 : Int32) (v2 : Int32) (v3 : Int32) (o0 : cf_O) (o1 : cf_O) (r : cf_O) (h : fCv_writeRows_68 (gCv_writeRows n) v1 v2 v3 o0 o1 = some r) : phSB o1 ≤ phSB r := by
  have hm : phSB o1 ≤ phSB o1 := Nat.le_refl _
  exact Nat.le_trans hm (nCv_writeRows_69 ih _ _ _ _ _ _ h)
set_option maxRecDepth 100000 in
theorem nCv_writeRows_52 {n : Nat} (ih : NICv_writeRows n) (v1 : Int32) (v2 : Int32) (v3 : Int32) (v4 : Int32) (o0 : cf_O) (o1 : cf_O) (r : cf_O) (h : fCv_writeRows_52 (gCv_writeRows n) v1 v2 v3 v4 o0 o1 = some r) : phSB o1 ≤ phSB r := by
  have hm : phSB o1 ≤ phSB o1 := Nat.le_refl _
  obtain ⟨x_1, ex_1, h⟩ := op_kx h
  exact Nat.le_trans hm ((ih.2) _ _ _ _ _ _ _ h)
set_option maxRecDepth 100000 in
theorem nCv_writeRows_49 {n : Nat} (ih : NICv_writeRows n) (v1 : Int32) (v2 : Int32) (v3 : Int32) (v4 : Int32) (s1 : Int32) (o0 : cf_O) (o1 : cf_O) (r : cf_O) (h : fCv_writeRows_49 (gCv_writeRows n) v1 v2 v3 v4 s1 o0 o1 = some r) : phSB o1 ≤ phSB r := by
  have hm : phSB o1 ≤ phSB o1 := Nat.le_refl _
  obtain ⟨q_1, hq_1, h⟩ := op_b h
  have hm : phSB o1 ≤ phSB q_1 := Nat.le_trans hm (nSB_appendC _ _ _ hq_1)
  exact Nat.le_trans hm (nCv_writeRows_52 ih _ _ _ _ _ _ _ h)
set_option maxRecDepth 100000 in
theorem nCv_writeRows_23 {n : Nat} (ih : NICv_writeRows n) (v1 : Int32) (v2 : Int32) (v3 : Int32) (v4 : Int32) (o0 : cf_O) (o1 : cf_O) (r : cf_O) (h : fCv_writeRows_23 (gCv_writeRows n) v1 v2 v3 v4 o0 o1 = some r) : phSB o1 ≤ phSB r := by
  have hm : phSB o1 ≤ phSB o1 := Nat.le_refl _
  rcases (Classical.em (v2 ≤ v4)) with c_1 | c_1
  · have h := op_t c_1 h
    obtain ⟨q_2, hq_2, h⟩ := op_b h
    have hm : phSB o1 ≤ phSB q_2 := Nat.le_trans hm (nSB_appendS_S11 _ _ hq_2)
    exact Nat.le_trans hm (nCv_writeRows_68 ih _ _ _ _ _ _ h)
  · have h := op_f c_1 h
    obtain ⟨x_7, ex_7, h⟩ := op_kx h
    obtain ⟨x_8, ex_8, h⟩ := op_kx h
    rcases (Classical.em (x_8 = (0 : Int32))).symm with c_9 | c_9
    · have h := op_f c_9 h
      exact Nat.le_trans hm (nCv_writeRows_49 ih _ _ _ _ _ _ _ _ h)
    · have h := op_t c_9 h
      exact Nat.le_trans hm (nCv_writeRows_49 ih _ _ _ _ _ _ _ _ h)
set_option maxRecDepth 100000 in
theorem nCv_writeRows_2 {n : Nat} (ih : NICv_writeRows n) (v1 : Int32) (v2 : Int32) (v3 : Int32) (o0 : cf_O) (o1 : cf_O) (r : cf_O) (h : fCv_writeRows_2 (gCv_writeRows n) v1 v2 v3 o0 o1 = some r) : phSB o1 ≤ phSB r := by
  have hm : phSB o1 ≤ phSB o1 := Nat.le_refl _
  obtain ⟨x_1, ex_1, h⟩ := op_kx h
  rcases (Classical.em (x_1 ≤ v3)) with c_2 | c_2
  · have h := op_t c_2 h
    obtain rfl := Option.some.inj h
    exact hm
  · have h := op_f c_2 h
    obtain ⟨x_3, ex_3, h⟩ := op_kx h
    obtain ⟨x_4, ex_4, h⟩ := op_kx h
    rcases (Classical.em (x_4 = (0 : Int32))).symm with c_5 | c_5
    · have h := op_f c_5 h
      exact Nat.le_trans hm ((ih.2) _ _ _ _ _ _ _ h)
    · have h := op_t c_5 h
      exact Nat.le_trans hm (nCv_writeRows_69 ih _ _ _ _ _ _ h)
set_option maxRecDepth 100000 in
theorem nCv_writeRows_0 {n : Nat} (ih : NICv_writeRows n) (v1 : Int32) (v2 : Int32) (o0 : cf_O) (o1 : cf_O) (r : cf_O) (h : fCv_writeRows_0 (gCv_writeRows n) v1 v2 o0 o1 = some r) : phSB o1 ≤ phSB r := by
  have hm : phSB o1 ≤ phSB o1 := Nat.le_refl _
  exact Nat.le_trans hm ((ih.1) _ _ _ _ _ _ h)
theorem niCv_writeRows : ∀ n, NICv_writeRows n := by
  intro n
  induction n with
  | zero => exact ⟨(fun _ _ _ _ _ r h => by cases (show none = some r from h)), (fun _ _ _ _ _ _ r h => by cases (show none = some r from h))⟩
  | succ n ih => exact ⟨fun x0 x1 x2 x3 x4 r h => nCv_writeRows_2 ih x0 x1 x2 x3 x4 r h, fun x0 x1 x2 x3 x4 x5 r h => nCv_writeRows_23 ih x0 x1 x2 x3 x4 x5 r h⟩
theorem nCv_writeRows (v1 : Int32) (v2 : Int32) (o0 : cf_O) (o1 : cf_O) (r : cf_O) (h : fCv_writeRows v1 v2 o0 o1 = some r) : phSB o1 ≤ phSB r := nCv_writeRows_0 (niCv_writeRows cfFU) v1 v2 o0 o1 r h
def IhCv_writeRows (p : Program) (l : Launch) (e : Env) (s : State) (m : MethodId) (below : List Frame) (meth : Method) (c : Code) (A : Nat → Prop) (D : va_G) (K : Nat → ClassId) (h0 : Nat) (h1 : Nat) (os : cf_O) (AR : Array Value) (n : Nat) : Prop := (∀ (v1 : Int32) (v2 : Int32) (v3 : Int32) (o0 : cf_O) (o1 : cf_O) (r : cf_O), gCv_writeRows n 0 v1 v2 v3 0 o0 o1 = some r → ∀ {a1 : Nat → Nat} {H : Heap} {locs : List Loc} {ls : Array Slot}, (phSB os ≤ phSB o1) → (va_P D vwCl (wSc K h0 (fun _ => h1) o0 ++ wSB K h1 a1 o1) H) → (va_D A (wSc K h0 (fun _ => h1) o0 ++ wSB K h1 a1 o1)) → va_S A s.heap H locs → lv_has ls 5 [(0, .ref h0), (1, .int v1), (2, .int v2), (3, .int v3)] → W p l e ({ frames := 6, cells := (gC (phSB os) (phSB r)), slots := (gS (phSB os) (phSB r)), locals := 167 }) s m AR below meth c H locs (gC (phSB os) (phSB o1)) (gS (phSB os) (phSB o1)) (MQ below (va_Qv (fun (_ : Nat → Nat) => True) (fun (u : Nat → Nat) t => cf_At D A (wSc K h0 (fun _ => h1) o0 ++ wSB K h1 u r) t) A) AR s (gC (phSB os) (phSB r)) (gS (phSB os) (phSB r)) A) (F0 m 2 ls [])) ∧ (∀ (v1 : Int32) (v2 : Int32) (v3 : Int32) (v4 : Int32) (o0 : cf_O) (o1 : cf_O) (r : cf_O), gCv_writeRows n 1 v1 v2 v3 v4 o0 o1 = some r → ∀ {a1 : Nat → Nat} {H : Heap} {locs : List Loc} {ls : Array Slot}, (phSB os ≤ phSB o1) → (va_P D vwCl (wSc K h0 (fun _ => h1) o0 ++ wSB K h1 a1 o1) H) → (va_D A (wSc K h0 (fun _ => h1) o0 ++ wSB K h1 a1 o1)) → va_S A s.heap H locs → lv_has ls 5 [(0, .ref h0), (1, .int v1), (2, .int v2), (3, .int v3), (4, .int v4)] → W p l e ({ frames := 6, cells := (gC (phSB os) (phSB r)), slots := (gS (phSB os) (phSB r)), locals := 167 }) s m AR below meth c H locs (gC (phSB os) (phSB o1)) (gS (phSB os) (phSB o1)) (MQ below (va_Qv (fun (_ : Nat → Nat) => True) (fun (u : Nat → Nat) t => cf_At D A (wSc K h0 (fun _ => h1) o0 ++ wSB K h1 u r) t) A) AR s (gC (phSB os) (phSB r)) (gS (phSB os) (phSB r)) A) (F0 m 23 ls []))
set_option maxHeartbeats 4000000 in
set_option maxRecDepth 100000 in
theorem bCv_writeRows_69 {p : Program} {l : Launch} {e : Env} {s : State} {m : MethodId} {below : List Frame} {meth : Method} {c : Code} {A : Nat → Prop} {D : va_G} {K : Nat → ClassId} {h0 : Nat} {h1 : Nat} {os : cf_O} {AR : Array Value} (C : (dc_C p s m AR meth c cCv_writeRows 5 (Option.none : Option Jvm.ClassFile.FieldType) yCv_writeRows ∧ cf_E D K A s s.heap ∧ ∀ q, s.heap.size ≤ q → A q)) {n : Nat} (ih : IhCv_writeRows p l e s m below meth c A D K h0 h1 os AR n) (v1 : Int32) (v2 : Int32) (v3 : Int32) (o0 : cf_O) (o1 : cf_O) (r : cf_O) (h : fCv_writeRows_69 (gCv_writeRows n) v1 v2 v3 o0 o1 = some r) {a1 : Nat → Nat} {H : Heap} {locs : List Loc} {ls : Array Slot} (hg : phSB os ≤ phSB o1) (hP : va_P D vwCl (wSc K h0 (fun _ => h1) o0 ++ wSB K h1 a1 o1) H) (hD : va_D A (wSc K h0 (fun _ => h1) o0 ++ wSB K h1 a1 o1)) (hS : va_S A s.heap H locs) (hl : lv_has ls 5 [(0, .ref h0), (1, .int v1), (2, .int v2), (3, .int v3)]) : W p l e ({ frames := 6, cells := (gC (phSB os) (phSB r)), slots := (gS (phSB os) (phSB r)), locals := 167 }) s m AR below meth c H locs (gC (phSB os) (phSB o1)) (gS (phSB os) (phSB o1)) (MQ below (va_Qv (fun (_ : Nat → Nat) => True) (fun (u : Nat → Nat) t => cf_At D A (wSc K h0 (fun _ => h1) o0 ++ wSB K h1 u r) t) A) AR s (gC (phSB os) (phSB r)) (gS (phSB os) (phSB r)) A) (F0 m 69 ls []) := by
  obtain ⟨⟨hx, hb, hr, hts, hown, hlocks, hin, hml⟩, hE, hA⟩ := id C
  have hK := hE.k
  obtain ⟨x_1, ex_1⟩ : ∃ y : Int32, y = v3 + 1 := ⟨_, rfl⟩
  refine lv_iinc (v := x_1) (lv' := [(3, .int x_1), (0, .ref h0), (1, .int v1), (2, .int v2)]) hx hb dCv_writeRows_69 hl (k := 3) rfl (by rw [ex_1]; rfl) (by decide) rfl (fun ls hl => ?_)
  have h := op_ks ex_1 h
  refine lv_goto (tgt := 2) hx hb dCv_writeRows_72 (by decide) ?_
  exact (ih.1) _ _ _ _ _ _ h hg hP hD hS (lv_sub hl [1, 2, 3, 0] rfl)
set_option maxHeartbeats 4000000 in
set_option maxRecDepth 100000 in
theorem bCv_writeRows_68 {p : Program} {l : Launch} {e : Env} {s : State} {m : MethodId} {below : List Frame} {meth : Method} {c : Code} {A : Nat → Prop} {D : va_G} {K : Nat → ClassId} {h0 : Nat} {h1 : Nat} {os : cf_O} {AR : Array Value} (C : (dc_C p s m AR meth c cCv_writeRows 5 (Option.none : Option Jvm.ClassFile.FieldType) yCv_writeRows ∧ cf_E D K A s s.heap ∧ ∀ q, s.heap.size ≤ q → A q)) {n : Nat} (ih : IhCv_writeRows p l e s m below meth c A D K h0 h1 os AR n) (v1 : Int32) (v2 : Int32) (v3 : Int32) (o0 : cf_O) (o1 : cf_O) (r : cf_O) (h : fCv_writeRows_68 (gCv_writeRows n) v1 v2 v3 o0 o1 = some r) {a1 : Nat → Nat} {H : Heap} {locs : List Loc} {ls : Array Slot} (hg : phSB os ≤ phSB o1) (hP : va_P D vwCl (wSc K h0 (fun _ => h1) o0 ++ wSB K h1 a1 o1) H) (hD : va_D A (wSc K h0 (fun _ => h1) o0 ++ wSB K h1 a1 o1)) (hS : va_S A s.heap H locs) (hl : lv_has ls 5 [(0, .ref h0), (1, .int v1), (2, .int v2), (3, .int v3)]) : W p l e ({ frames := 6, cells := (gC (phSB os) (phSB r)), slots := (gS (phSB os) (phSB r)), locals := 167 }) s m AR below meth c H locs (gC (phSB os) (phSB o1)) (gS (phSB os) (phSB o1)) (MQ below (va_Qv (fun (_ : Nat → Nat) => True) (fun (u : Nat → Nat) t => cf_At D A (wSc K h0 (fun _ => h1) o0 ++ wSB K h1 u r) t) A) AR s (gC (phSB os) (phSB r)) (gS (phSB os) (phSB r)) A) (F0 m 68 ls [.ref h1]) := by
  obtain ⟨⟨hx, hb, hr, hts, hown, hlocks, hin, hml⟩, hE, hA⟩ := id C
  have hK := hE.k
  refine lv_pop hx hb dCv_writeRows_68 rfl ?_
  exact bCv_writeRows_69 C ih _ _ _ _ _ _ h hg hP hD hS (lv_sub hl [0, 1, 2, 3] rfl)
set_option maxHeartbeats 4000000 in
set_option maxRecDepth 100000 in
theorem bCv_writeRows_52 {p : Program} {l : Launch} {e : Env} {s : State} {m : MethodId} {below : List Frame} {meth : Method} {c : Code} {A : Nat → Prop} {D : va_G} {K : Nat → ClassId} {h0 : Nat} {h1 : Nat} {os : cf_O} {AR : Array Value} (C : (dc_C p s m AR meth c cCv_writeRows 5 (Option.none : Option Jvm.ClassFile.FieldType) yCv_writeRows ∧ cf_E D K A s s.heap ∧ ∀ q, s.heap.size ≤ q → A q)) {n : Nat} (ih : IhCv_writeRows p l e s m below meth c A D K h0 h1 os AR n) (v1 : Int32) (v2 : Int32) (v3 : Int32) (v4 : Int32) (o0 : cf_O) (o1 : cf_O) (r : cf_O) (h : fCv_writeRows_52 (gCv_writeRows n) v1 v2 v3 v4 o0 o1 = some r) {a1 : Nat → Nat} {H : Heap} {locs : List Loc} {ls : Array Slot} (hg : phSB os ≤ phSB o1) (hP : va_P D vwCl (wSc K h0 (fun _ => h1) o0 ++ wSB K h1 a1 o1) H) (hD : va_D A (wSc K h0 (fun _ => h1) o0 ++ wSB K h1 a1 o1)) (hS : va_S A s.heap H locs) (hl : lv_has ls 5 [(0, .ref h0), (1, .int v1), (2, .int v2), (3, .int v3), (4, .int v4)]) : W p l e ({ frames := 6, cells := (gC (phSB os) (phSB r)), slots := (gS (phSB os) (phSB r)), locals := 167 }) s m AR below meth c H locs (gC (phSB os) (phSB o1)) (gS (phSB os) (phSB o1)) (MQ below (va_Qv (fun (_ : Nat → Nat) => True) (fun (u : Nat → Nat) t => cf_At D A (wSc K h0 (fun _ => h1) o0 ++ wSB K h1 u r) t) A) AR s (gC (phSB os) (phSB r)) (gS (phSB os) (phSB r)) A) (F0 m 52 ls [.ref h1]) := by
  obtain ⟨⟨hx, hb, hr, hts, hown, hlocks, hin, hml⟩, hE, hA⟩ := id C
  have hK := hE.k
  refine lv_pop hx hb dCv_writeRows_52 rfl ?_
  obtain ⟨x_1, ex_1⟩ : ∃ y : Int32, y = v4 + 1 := ⟨_, rfl⟩
  refine lv_iinc (v := x_1) (lv' := [(4, .int x_1), (0, .ref h0), (1, .int v1), (2, .int v2), (3, .int v3)]) hx hb dCv_writeRows_53 hl (k := 4) rfl (by rw [ex_1]; rfl) (by decide) rfl (fun ls hl => ?_)
  have h := op_ks ex_1 h
  refine lv_goto (tgt := 23) hx hb dCv_writeRows_56 (by decide) ?_
  exact (ih.2) _ _ _ _ _ _ _ h hg hP hD hS (lv_sub hl [1, 2, 3, 4, 0] rfl)
set_option maxHeartbeats 4000000 in
set_option maxRecDepth 100000 in
theorem bCv_writeRows_49 {p : Program} {l : Launch} {e : Env} {s : State} {m : MethodId} {below : List Frame} {meth : Method} {c : Code} {A : Nat → Prop} {D : va_G} {K : Nat → ClassId} {h0 : Nat} {h1 : Nat} {os : cf_O} {AR : Array Value} (C : (dc_C p s m AR meth c cCv_writeRows 5 (Option.none : Option Jvm.ClassFile.FieldType) yCv_writeRows ∧ cf_E D K A s s.heap ∧ ∀ q, s.heap.size ≤ q → A q)) {n : Nat} (ih : IhCv_writeRows p l e s m below meth c A D K h0 h1 os AR n) (v1 : Int32) (v2 : Int32) (v3 : Int32) (v4 : Int32) (s1 : Int32) (o0 : cf_O) (o1 : cf_O) (r : cf_O) (h : fCv_writeRows_49 (gCv_writeRows n) v1 v2 v3 v4 s1 o0 o1 = some r) {a1 : Nat → Nat} {H : Heap} {locs : List Loc} {ls : Array Slot} (hg : phSB os ≤ phSB o1) (hP : va_P D vwCl (wSc K h0 (fun _ => h1) o0 ++ wSB K h1 a1 o1) H) (hD : va_D A (wSc K h0 (fun _ => h1) o0 ++ wSB K h1 a1 o1)) (hS : va_S A s.heap H locs) (hl : lv_has ls 5 [(0, .ref h0), (1, .int v1), (2, .int v2), (3, .int v3), (4, .int v4)]) : W p l e ({ frames := 6, cells := (gC (phSB os) (phSB r)), slots := (gS (phSB os) (phSB r)), locals := 167 }) s m AR below meth c H locs (gC (phSB os) (phSB o1)) (gS (phSB os) (phSB o1)) (MQ below (va_Qv (fun (_ : Nat → Nat) => True) (fun (u : Nat → Nat) t => cf_At D A (wSc K h0 (fun _ => h1) o0 ++ wSB K h1 u r) t) A) AR s (gC (phSB os) (phSB r)) (gS (phSB os) (phSB r)) A) (F0 m 49 ls [.int s1, .ref h1]) := by
  obtain ⟨⟨hx, hb, hr, hts, hown, hlocks, hin, hml⟩, hE, hA⟩ := id C
  have hK := hE.k
  obtain ⟨q_1, hq_1, h⟩ := op_b h
  have hgr_2 : phSB q_1 ≤ phSB r := nCv_writeRows_52 (niCv_writeRows n) _ _ _ _ _ _ _ h
  have hg2_3 : phSB o1 ≤ phSB q_1 := nSB_appendC _ _ _ hq_1
  refine cf_callR (wc := wSB K h1 a1 o1) (wr := wSc K h0 (fun _ => h1) o0) (va_runV (As := [.int s1]) (rest := []) ⟨hx, hb, hml, hown, hts⟩ (mSB_appendC l D K _ s1 h1 a1 o1 _ hq_1) (cwV 1 hts (cf_GV wv_1827 wv_1799 wv_1800 wv_167 wv_1801) rfl rfl rfl (by decide +kernel) ⟨Nat.le_of_ble_eq_true rfl, Nat.le_of_ble_eq_true rfl⟩) (cf_preV (wc := wSB K h1 a1 o1) hE hP hD hS hA rfl 1 rfl [1, 2] rfl (by decide +kernel)) rfl rfl hl.1 rfl (lv_room (Nat.le_of_ble_eq_true rfl)) dCv_writeRows_49 ⟨Nat.le_trans (gC_add hg hg2_3) (gC_le hgr_2), Nat.le_trans (gS_add hg hg2_3) (gS_le hgr_2)⟩) hP hD hS hA [1, 2] [0] rfl rfl (by decide +kernel) (by decide +kernel) (fun a1_5 H locs hw_4 hP hD hS => ?_)
  have hP : va_P D vwCl (wSc K h0 (fun _ => h1) o0 ++ wSB K h1 a1_5 q_1) H := hP.sub [0, 1, 2] rfl
  have hD : va_D A (wSc K h0 (fun _ => h1) o0 ++ wSB K h1 a1_5 q_1) := hD.sub [0, 1, 2] (by decide +kernel) rfl
  refine W.widen (k := (gC (phSB os) (phSB q_1))) (n := (gS (phSB os) (phSB q_1))) (gC_add hg hg2_3) (gS_add hg hg2_3) ?_
  have hg : phSB os ≤ phSB q_1 := Nat.le_trans hg hg2_3
  exact bCv_writeRows_52 C ih _ _ _ _ _ _ _ h hg hP hD hS (lv_sub hl [0, 1, 2, 3, 4] rfl)
set_option maxHeartbeats 4000000 in
set_option maxRecDepth 100000 in
theorem bCv_writeRows_23 {p : Program} {l : Launch} {e : Env} {s : State} {m : MethodId} {below : List Frame} {meth : Method} {c : Code} {A : Nat → Prop} {D : va_G} {K : Nat → ClassId} {h0 : Nat} {h1 : Nat} {os : cf_O} {AR : Array Value} (C : (dc_C p s m AR meth c cCv_writeRows 5 (Option.none : Option Jvm.ClassFile.FieldType) yCv_writeRows ∧ cf_E D K A s s.heap ∧ ∀ q, s.heap.size ≤ q → A q)) {n : Nat} (ih : IhCv_writeRows p l e s m below meth c A D K h0 h1 os AR n) (v1 : Int32) (v2 : Int32) (v3 : Int32) (v4 : Int32) (o0 : cf_O) (o1 : cf_O) (r : cf_O) (h : fCv_writeRows_23 (gCv_writeRows n) v1 v2 v3 v4 o0 o1 = some r) {a1 : Nat → Nat} {H : Heap} {locs : List Loc} {ls : Array Slot} (hg : phSB os ≤ phSB o1) (hP : va_P D vwCl (wSc K h0 (fun _ => h1) o0 ++ wSB K h1 a1 o1) H) (hD : va_D A (wSc K h0 (fun _ => h1) o0 ++ wSB K h1 a1 o1)) (hS : va_S A s.heap H locs) (hl : lv_has ls 5 [(0, .ref h0), (1, .int v1), (2, .int v2), (3, .int v3), (4, .int v4)]) : W p l e ({ frames := 6, cells := (gC (phSB os) (phSB r)), slots := (gS (phSB os) (phSB r)), locals := 167 }) s m AR below meth c H locs (gC (phSB os) (phSB o1)) (gS (phSB os) (phSB o1)) (MQ below (va_Qv (fun (_ : Nat → Nat) => True) (fun (u : Nat → Nat) t => cf_At D A (wSc K h0 (fun _ => h1) o0 ++ wSB K h1 u r) t) A) AR s (gC (phSB os) (phSB r)) (gS (phSB os) (phSB r)) A) (F0 m 23 ls []) := by
  obtain ⟨⟨hx, hb, hr, hts, hown, hlocks, hin, hml⟩, hE, hA⟩ := id C
  have hK := hE.k
  refine lv_iload hx hb dCv_writeRows_23 (lv_at hl 4 rfl) ?_
  refine lv_iload_n hx hb dCv_writeRows_25 rfl (lv_at hl 2 rfl) ?_
  refine lv_icmp_ge (tgt := 59) hx hb dCv_writeRows_26 (by decide) (fun c_1 => ?_) (fun c_1 => ?_)
  · have h := op_t c_1 h
    refine lv_aload_n hx hb dCv_writeRows_59 rfl (lv_at hl 0 rfl) ?_
    refine va_get (D := D) (ci := 10) (v := .ref h1) (C := RSc) (T := TSc) (N := 2) hx hb hts inSc hown hK hP 0 rfl rfl 1 (by decide) (hts _ wv_470) (fun _ h9 => h9) rfl dCv_writeRows_60 ?_
    refine va_ldcS hx hb hown (hE.s 11 rfl).1 dCv_writeRows_63 ?_
    obtain ⟨q_2, hq_2, h⟩ := op_b h
    have hgr_3 : phSB q_2 ≤ phSB r := nCv_writeRows_68 (niCv_writeRows n) _ _ _ _ _ _ h
    have hg2_4 : phSB o1 ≤ phSB q_2 := nSB_appendS_S11 _ _ hq_2
    refine cf_callR (wc := wSB K h1 a1 o1) (wr := wSc K h0 (fun _ => h1) o0) (va_runV (As := [.ref (K 111)]) (rest := []) ⟨hx, hb, hml, hown, hts⟩ (mSB_appendS_S11 l D K _ h1 a1 o1 _ hq_2) (cwV 1 hts (cf_GV wv_1815 wv_1555 wv_1556 wv_167 wv_1557) rfl rfl rfl (by decide +kernel) ⟨Nat.le_of_ble_eq_true rfl, Nat.le_of_ble_eq_true rfl⟩) (cf_preV (wc := wSB K h1 a1 o1) hE hP hD hS hA rfl 1 rfl [1, 2] rfl (by decide +kernel)) rfl rfl hl.1 rfl (lv_room (Nat.le_of_ble_eq_true rfl)) dCv_writeRows_65 ⟨Nat.le_trans (gC_add hg hg2_4) (gC_le hgr_3), Nat.le_trans (gS_add hg hg2_4) (gS_le hgr_3)⟩) hP hD hS hA [1, 2] [0] rfl rfl (by decide +kernel) (by decide +kernel) (fun a1_6 H locs hw_5 hP hD hS => ?_)
    have hP : va_P D vwCl (wSc K h0 (fun _ => h1) o0 ++ wSB K h1 a1_6 q_2) H := hP.sub [0, 1, 2] rfl
    have hD : va_D A (wSc K h0 (fun _ => h1) o0 ++ wSB K h1 a1_6 q_2) := hD.sub [0, 1, 2] (by decide +kernel) rfl
    refine W.widen (k := (gC (phSB os) (phSB q_2))) (n := (gS (phSB os) (phSB q_2))) (gC_add hg hg2_4) (gS_add hg hg2_4) ?_
    have hg : phSB os ≤ phSB q_2 := Nat.le_trans hg hg2_4
    exact bCv_writeRows_68 C ih _ _ _ _ _ _ h hg hP hD hS (lv_sub hl [0, 1, 2, 3] rfl)
  · have h := op_f c_1 h
    refine lv_aload_n hx hb dCv_writeRows_29 rfl (lv_at hl 0 rfl) ?_
    refine va_get (D := D) (ci := 10) (v := .ref h1) (C := RSc) (T := TSc) (N := 2) hx hb hts inSc hown hK hP 0 rfl rfl 1 (by decide) (hts _ wv_470) (fun _ h9 => h9) rfl dCv_writeRows_30 ?_
    refine lv_iload_n hx hb dCv_writeRows_33 rfl (lv_at hl 3 rfl) ?_
    refine lv_iload hx hb dCv_writeRows_34 (lv_at hl 4 rfl) ?_
    refine lv_ishr hx hb dCv_writeRows_36 ?_
    refine lv_topi (fun x_7 ex_7 => ?_)
    have h := op_ks ex_7 h
    refine lv_iconst (v := 1) hx hb dCv_writeRows_37 (by decide) ?_
    refine lv_iand hx hb dCv_writeRows_38 ?_
    refine lv_topi (fun x_8 ex_8 => ?_)
    have h := op_ks ex_8 h
    refine lv_if_ne (tgt := 47) hx hb dCv_writeRows_39 (by decide) (fun c_9 => ?_) (fun c_9 => ?_)
    · have h := op_f c_9 h
      refine lv_bipush (v := 49) hx hb dCv_writeRows_47 (by decide) ?_
      exact bCv_writeRows_49 C ih _ _ _ _ _ _ _ _ h hg hP hD hS (lv_sub hl [0, 1, 2, 3, 4] rfl)
    · have h := op_t c_9 h
      refine lv_bipush (v := 48) hx hb dCv_writeRows_42 (by decide) ?_
      refine lv_goto (tgt := 49) hx hb dCv_writeRows_44 (by decide) ?_
      exact bCv_writeRows_49 C ih _ _ _ _ _ _ _ _ h hg hP hD hS (lv_sub hl [0, 1, 2, 3, 4] rfl)
set_option maxHeartbeats 4000000 in
set_option maxRecDepth 100000 in
theorem bCv_writeRows_2 {p : Program} {l : Launch} {e : Env} {s : State} {m : MethodId} {below : List Frame} {meth : Method} {c : Code} {A : Nat → Prop} {D : va_G} {K : Nat → ClassId} {h0 : Nat} {h1 : Nat} {os : cf_O} {AR : Array Value} (C : (dc_C p s m AR meth c cCv_writeRows 5 (Option.none : Option Jvm.ClassFile.FieldType) yCv_writeRows ∧ cf_E D K A s s.heap ∧ ∀ q, s.heap.size ≤ q → A q)) {n : Nat} (ih : IhCv_writeRows p l e s m below meth c A D K h0 h1 os AR n) (v1 : Int32) (v2 : Int32) (v3 : Int32) (o0 : cf_O) (o1 : cf_O) (r : cf_O) (h : fCv_writeRows_2 (gCv_writeRows n) v1 v2 v3 o0 o1 = some r) {a1 : Nat → Nat} {H : Heap} {locs : List Loc} {ls : Array Slot} (hg : phSB os ≤ phSB o1) (hP : va_P D vwCl (wSc K h0 (fun _ => h1) o0 ++ wSB K h1 a1 o1) H) (hD : va_D A (wSc K h0 (fun _ => h1) o0 ++ wSB K h1 a1 o1)) (hS : va_S A s.heap H locs) (hl : lv_has ls 5 [(0, .ref h0), (1, .int v1), (2, .int v2), (3, .int v3)]) : W p l e ({ frames := 6, cells := (gC (phSB os) (phSB r)), slots := (gS (phSB os) (phSB r)), locals := 167 }) s m AR below meth c H locs (gC (phSB os) (phSB o1)) (gS (phSB os) (phSB o1)) (MQ below (va_Qv (fun (_ : Nat → Nat) => True) (fun (u : Nat → Nat) t => cf_At D A (wSc K h0 (fun _ => h1) o0 ++ wSB K h1 u r) t) A) AR s (gC (phSB os) (phSB r)) (gS (phSB os) (phSB r)) A) (F0 m 2 ls []) := by
  obtain ⟨⟨hx, hb, hr, hts, hown, hlocks, hin, hml⟩, hE, hA⟩ := id C
  have hK := hE.k
  refine lv_iload_n hx hb dCv_writeRows_2 rfl (lv_at hl 3 rfl) ?_
  refine lv_iconst (v := 1) hx hb dCv_writeRows_3 (by decide) ?_
  refine lv_iload_n hx hb dCv_writeRows_4 rfl (lv_at hl 2 rfl) ?_
  refine lv_ishl hx hb dCv_writeRows_5 ?_
  refine lv_topi (fun x_1 ex_1 => ?_)
  have h := op_ks ex_1 h
  refine lv_icmp_ge (tgt := 75) hx hb dCv_writeRows_6 (by decide) (fun c_2 => ?_) (fun c_2 => ?_)
  · have h := op_t c_2 h
    obtain rfl := Option.some.inj h
    exact dc_vretG a1 hx hb hr hlocks hP hD hS dCv_writeRows_75
  · have h := op_f c_2 h
    refine lv_iload_n hx hb dCv_writeRows_9 rfl (lv_at hl 1 rfl) ?_
    refine lv_iload_n hx hb dCv_writeRows_10 rfl (lv_at hl 3 rfl) ?_
    refine lv_iushr hx hb dCv_writeRows_11 rfl ?_
    refine lv_topi (fun x_3 ex_3 => ?_)
    have h := op_ks ex_3 h
    refine lv_iconst (v := 1) hx hb dCv_writeRows_12 (by decide) ?_
    refine lv_iand hx hb dCv_writeRows_13 ?_
    refine lv_topi (fun x_4 ex_4 => ?_)
    have h := op_ks ex_4 h
    refine lv_if_ne (tgt := 20) hx hb dCv_writeRows_14 (by decide) (fun c_5 => ?_) (fun c_5 => ?_)
    · have h := op_f c_5 h
      refine lv_iconst (v := 0) hx hb dCv_writeRows_20 (by decide) ?_
      refine lv_istore (lv' := [(4, .int 0), (0, .ref h0), (1, .int v1), (2, .int v2), (3, .int v3)]) hx hb dCv_writeRows_21 hl (by decide) rfl (fun ls hl => ?_)
      exact (ih.2) _ _ _ _ _ _ _ h hg hP hD hS (lv_sub hl [1, 2, 3, 4, 0] rfl)
    · have h := op_t c_5 h
      refine lv_goto (tgt := 69) hx hb dCv_writeRows_17 (by decide) ?_
      exact bCv_writeRows_69 C ih _ _ _ _ _ _ h hg hP hD hS (lv_sub hl [0, 1, 2, 3] rfl)
set_option maxHeartbeats 4000000 in
set_option maxRecDepth 100000 in
theorem bCv_writeRows_0 {p : Program} {l : Launch} {e : Env} {s : State} {m : MethodId} {below : List Frame} {meth : Method} {c : Code} {A : Nat → Prop} {D : va_G} {K : Nat → ClassId} {h0 : Nat} {h1 : Nat} {os : cf_O} {AR : Array Value} (C : (dc_C p s m AR meth c cCv_writeRows 5 (Option.none : Option Jvm.ClassFile.FieldType) yCv_writeRows ∧ cf_E D K A s s.heap ∧ ∀ q, s.heap.size ≤ q → A q)) {n : Nat} (ih : IhCv_writeRows p l e s m below meth c A D K h0 h1 os AR n) (v1 : Int32) (v2 : Int32) (o0 : cf_O) (o1 : cf_O) (r : cf_O) (h : fCv_writeRows_0 (gCv_writeRows n) v1 v2 o0 o1 = some r) {a1 : Nat → Nat} {H : Heap} {locs : List Loc} {ls : Array Slot} (hg : phSB os ≤ phSB o1) (hP : va_P D vwCl (wSc K h0 (fun _ => h1) o0 ++ wSB K h1 a1 o1) H) (hD : va_D A (wSc K h0 (fun _ => h1) o0 ++ wSB K h1 a1 o1)) (hS : va_S A s.heap H locs) (hl : lv_has ls 5 [(0, .ref h0), (1, .int v1), (2, .int v2)]) : W p l e ({ frames := 6, cells := (gC (phSB os) (phSB r)), slots := (gS (phSB os) (phSB r)), locals := 167 }) s m AR below meth c H locs (gC (phSB os) (phSB o1)) (gS (phSB os) (phSB o1)) (MQ below (va_Qv (fun (_ : Nat → Nat) => True) (fun (u : Nat → Nat) t => cf_At D A (wSc K h0 (fun _ => h1) o0 ++ wSB K h1 u r) t) A) AR s (gC (phSB os) (phSB r)) (gS (phSB os) (phSB r)) A) (F0 m 0 ls []) := by
  obtain ⟨⟨hx, hb, hr, hts, hown, hlocks, hin, hml⟩, hE, hA⟩ := id C
  have hK := hE.k
  refine lv_iconst (v := 0) hx hb dCv_writeRows_0 (by decide) ?_
  refine lv_istore_n (lv' := [(3, .int 0), (0, .ref h0), (1, .int v1), (2, .int v2)]) hx hb dCv_writeRows_1 rfl hl (by decide) rfl (fun ls hl => ?_)
  exact (ih.1) _ _ _ _ _ _ h hg hP hD hS (lv_sub hl [1, 2, 3, 0] rfl)
theorem iCv_writeRows {p : Program} {l : Launch} {e : Env} {s : State} {m : MethodId} {below : List Frame} {meth : Method} {c : Code} {A : Nat → Prop} {D : va_G} {K : Nat → ClassId} {h0 : Nat} {h1 : Nat} {os : cf_O} {AR : Array Value} (C : (dc_C p s m AR meth c cCv_writeRows 5 (Option.none : Option Jvm.ClassFile.FieldType) yCv_writeRows ∧ cf_E D K A s s.heap ∧ ∀ q, s.heap.size ≤ q → A q)) : ∀ n, IhCv_writeRows p l e s m below meth c A D K h0 h1 os AR n := by
  intro n
  induction n with
  | zero => exact ⟨(fun _ _ _ _ _ r h => by cases (show none = some r from h)), (fun _ _ _ _ _ _ r h => by cases (show none = some r from h))⟩
  | succ n ih => exact ⟨fun x0 x1 x2 x3 x4 r h _ _ _ _ hg hP hD hS hl => bCv_writeRows_2 C ih x0 x1 x2 x3 x4 r h hg hP hD hS hl, fun x0 x1 x2 x3 x4 x5 r h _ _ _ _ hg hP hD hS hl => bCv_writeRows_23 C ih x0 x1 x2 x3 x4 x5 r h hg hP hD hS hl⟩
set_option maxRecDepth 100000 in
theorem mCv_writeRows (l : Launch) (D : va_G) (K : Nat → ClassId) (sz : Nat) (v1 : Int32) (v2 : Int32) (h0 : Nat) (h1 : Nat) (a1 : Nat → Nat) (o0 : cf_O) (o1 : cf_O) (r : cf_O) (h : fCv_writeRows v1 v2 o0 o1 = some r) : Met l yCv_writeRows (Cond.code yCv_writeRows cCv_writeRows 5 (Option.none : Option Jvm.ClassFile.FieldType) :: cfB) ({ frames := 6, cells := (gC (phSB o1) (phSB r)), slots := (gS (phSB o1) (phSB r)), locals := 167 }) (va_Pc [.ref h0, .int v1, .int v2] (cf_Pre D K sz (wSc K h0 (fun _ => h1) o0 ++ wSB K h1 a1 o1))) (va_Qv (fun (_ : Nat → Nat) => True) (fun (u : Nat → Nat) t => cf_At D (va_A (wSc K h0 (fun _ => h1) o0 ++ wSB K h1 a1 o1) sz) (wSc K h0 (fun _ => h1) o0 ++ wSB K h1 u r) t) (va_A (wSc K h0 (fun _ => h1) o0 ++ wSB K h1 a1 o1) sz)) (gC (phSB o1) (phSB r)) (gS (phSB o1) (phSB r)) (va_A (wSc K h0 (fun _ => h1) o0 ++ wSB K h1 a1 o1) sz) := by
  refine cf_ofW (y := yCv_writeRows) (As := [.ref h0, .int v1, .int v2]) (WS := wSc K h0 (fun _ => h1) o0 ++ wSB K h1 a1 o1) (maxL := 5) (fun A => (va_Qv (fun (_ : Nat → Nat) => True) (fun (u : Nat → Nat) t => cf_At D A (wSc K h0 (fun _ => h1) o0 ++ wSB K h1 u r) t) A)) (by decide) (Nat.le_of_ble_eq_true rfl) ?_
  intro p e s m below meth c A ls En hsz hA hP hD hE hS hl
  have C : (dc_C p s m (([.ref h0, .int v1, .int v2] : List Value).toArray) meth c cCv_writeRows 5 (Option.none : Option Jvm.ClassFile.FieldType) yCv_writeRows ∧ cf_E D K A s s.heap ∧ ∀ q, s.heap.size ≤ q → A q) := ⟨En, hE, hA⟩
  refine W.widen (k := gC (phSB o1) (phSB o1)) (n := gS (phSB o1) (phSB o1)) (Nat.zero_le _) (Nat.zero_le _) ?_
  exact bCv_writeRows_0 C (iCv_writeRows C cfFU) v1 v2 o0 o1 r h (Nat.le_refl _) hP hD hS hl
set_option maxHeartbeats 4000000 in
set_option maxRecDepth 100000 in
theorem bJString_coder__S12_14 {p : Program} {l : Launch} {e : Env} {s : State} {m : MethodId} {below : List Frame} {meth : Method} {c : Code} {A : Nat → Prop} {D : va_G} {K : Nat → ClassId} {AR : Array Value} (C : (dc_C p s m AR meth c cJString_coder_ 1 (Option.some Jvm.ClassFile.FieldType.byte) yJString_coder_ ∧ cf_E D K A s s.heap ∧ ∀ q, s.heap.size ≤ q → A q)) (s0 : Int32) (r : Int32) (h : fJString_coder__S12_14 s0 = some r) {H : Heap} {locs : List Loc} {ls : Array Slot} (hP : va_P D vwCl ([]) H) (hD : va_D A ([])) (hS : va_S A s.heap H locs) (hl : lv_has ls 1 []) : W p l e ({ frames := 0, cells := 0, slots := 0, locals := 0 }) s m AR below meth c H locs 0 0 (MQ below (va_Qi (fun (x : Int32) (_ : Unit) => x = r) (fun (_ : Unit) t => cf_At D A ([]) t) A) AR s 0 0 A) (F0 m 14 ls [.int s0]) := by
  obtain ⟨⟨hx, hb, hr, hts, hown, hlocks, hin, hml⟩, hE, hA⟩ := id C
  have hK := hE.k
  obtain ⟨hz_1, h⟩ := op_w h
  obtain rfl := Option.some.inj h
  exact dc_zretn hx hb hr (op_nb hz_1) hlocks rfl hP hD hS dJString_coder__14
set_option maxHeartbeats 4000000 in
set_option maxRecDepth 100000 in
theorem bJString_coder__S12_0 {p : Program} {l : Launch} {e : Env} {s : State} {m : MethodId} {below : List Frame} {meth : Method} {c : Code} {A : Nat → Prop} {D : va_G} {K : Nat → ClassId} {AR : Array Value} (C : (dc_C p s m AR meth c cJString_coder_ 1 (Option.some Jvm.ClassFile.FieldType.byte) yJString_coder_ ∧ cf_E D K A s s.heap ∧ ∀ q, s.heap.size ≤ q → A q)) (r : Int32) (h : fJString_coder__S12_0 = some r) {H : Heap} {locs : List Loc} {ls : Array Slot} (hP : va_P D vwCl ([]) H) (hD : va_D A ([])) (hS : va_S A s.heap H locs) (hl : lv_has ls 1 [(0, .ref (K 112))]) : W p l e ({ frames := 0, cells := 0, slots := 0, locals := 0 }) s m AR below meth c H locs 0 0 (MQ below (va_Qi (fun (x : Int32) (_ : Unit) => x = r) (fun (_ : Unit) t => cf_At D A ([]) t) A) AR s 0 0 A) (F0 m 0 ls []) := by
  obtain ⟨⟨hx, hb, hr, hts, hown, hlocks, hin, hml⟩, hE, hA⟩ := id C
  have hK := hE.k
  refine va_gets hx hb hE.2.2.2.2.2.2.1 hS hown (hts _ wv_764) (fun _ h9 => h9) dJString_coder__0 ?_
  refine lv_if_eq (tgt := 13) hx hb dJString_coder__3 (by decide) (fun c_1 => absurd c_1 (by decide)) (fun _ => ?_)
  refine lv_aload_n hx hb dJString_coder__6 rfl (lv_at hl 0 rfl) ?_
  refine vk_getf hx hb (hE.s 12 rfl).2.2.1 hS hown (hts _ wv_1736) (fun _ h9 => h9) dJString_coder__7 ?_
  refine lv_goto (tgt := 14) hx hb dJString_coder__10 (by decide) ?_
  exact bJString_coder__S12_14 C _ _ h hP hD hS (lv_sub hl [] rfl)
set_option maxRecDepth 100000 in
theorem mJString_coder__S12 (l : Launch) (D : va_G) (K : Nat → ClassId) (sz : Nat) (r : Int32) (h : fJString_coder__S12 = some r) : Met l yJString_coder_ (Cond.code yJString_coder_ cJString_coder_ 1 (Option.some Jvm.ClassFile.FieldType.byte) :: cfB) ({ frames := 0, cells := 0, slots := 0, locals := 0 }) (va_Pc [.ref (K 112)] (cf_Pre D K sz ([]))) (va_Qi (fun (x : Int32) (_ : Unit) => x = r) (fun (_ : Unit) t => cf_At D (va_A ([]) sz) ([]) t) (va_A ([]) sz)) 0 0 (va_A ([]) sz) := by
  refine cf_ofW (y := yJString_coder_) (As := [.ref (K 112)]) (WS := []) (maxL := 1) (fun A => (va_Qi (fun (x : Int32) (_ : Unit) => x = r) (fun (_ : Unit) t => cf_At D A ([]) t) A)) (by decide) (Nat.le_of_ble_eq_true rfl) ?_
  intro p e s m below meth c A ls En hsz hA hP hD hE hS hl
  have C : (dc_C p s m (([.ref (K 112)] : List Value).toArray) meth c cJString_coder_ 1 (Option.some Jvm.ClassFile.FieldType.byte) yJString_coder_ ∧ cf_E D K A s s.heap ∧ ∀ q, s.heap.size ≤ q → A q) := ⟨En, hE, hA⟩
  exact bJString_coder__S12_0 C r h hP hD hS hl
set_option maxHeartbeats 4000000 in
set_option maxRecDepth 100000 in
theorem bJString_length__S12_0 {p : Program} {l : Launch} {e : Env} {s : State} {m : MethodId} {below : List Frame} {meth : Method} {c : Code} {A : Nat → Prop} {D : va_G} {K : Nat → ClassId} {AR : Array Value} (C : (dc_C p s m AR meth c cJString_length_ 1 (Option.some Jvm.ClassFile.FieldType.int) yJString_length_ ∧ cf_E D K A s s.heap ∧ ∀ q, s.heap.size ≤ q → A q)) (r : Int32) (h : fJString_length__S12_0 = some r) {H : Heap} {locs : List Loc} {ls : Array Slot} (hP : va_P D vwCl ([]) H) (hD : va_D A ([])) (hS : va_S A s.heap H locs) (hl : lv_has ls 1 [(0, .ref (K 112))]) : W p l e ({ frames := 1, cells := 0, slots := 0, locals := 20 }) s m AR below meth c H locs 0 0 (MQ below (va_Qi (fun (x : Int32) (_ : Unit) => x = r) (fun (_ : Unit) t => cf_At D A ([]) t) A) AR s 0 0 A) (F0 m 0 ls []) := by
  obtain ⟨⟨hx, hb, hr, hts, hown, hlocks, hin, hml⟩, hE, hA⟩ := id C
  have hK := hE.k
  refine lv_aload_n hx hb dJString_length__0 rfl (lv_at hl 0 rfl) ?_
  refine vk_getf hx hb (hE.s 12 rfl).2.2.2.1 hS hown (hts _ wv_1735) (fun _ h9 => h9) dJString_length__1 ?_
  refine va_tlen (v := 6) hx hb (hE.s 12 rfl).2.2.2.2 hS rfl dJString_length__4 ?_
  refine lv_aload_n hx hb dJString_length__5 rfl (lv_at hl 0 rfl) ?_
  obtain ⟨q_1, hq_1, h⟩ := op_b h
  refine cf_calli (wc := []) (wr := []) (va_runV (As := []) (rest := [.int 6]) ⟨hx, hb, hml, hown, hts⟩ (mJString_coder__S12 l D K _ _ hq_1) (cwV 0 hts (cf_GV wv_760 wv_761 wv_762 wv_168 wv_763) rfl rfl rfl (by decide +kernel) ⟨Nat.le_of_ble_eq_true rfl, Nat.le_of_ble_eq_true rfl⟩) (cf_preO (wc := []) (hE.s 12 rfl).2.1 hE hP hD hS hA [] rfl (by decide +kernel)) rfl rfl hl.1 rfl (lv_room (Nat.le_of_ble_eq_true rfl)) dJString_length__6 ⟨Nat.le_of_ble_eq_true rfl, Nat.le_of_ble_eq_true rfl⟩) hP hD hS hA [] [] rfl rfl (by decide +kernel) (by decide +kernel) (fun r_2 _ H locs hw_3 hP hD hS => ?_)
  subst r_2
  have hP : va_P D vwCl ([]) H := hP.sub [] rfl
  have hD : va_D A ([]) := hD.sub [] (by decide +kernel) rfl
  refine lv_ishr hx hb dJString_length__9 ?_
  refine lv_topi (fun x_4 ex_4 => ?_)
  have h := op_ks ex_4 h
  obtain rfl := Option.some.inj h
  exact dc_iret hx hb hr hlocks rfl hP hD hS dJString_length__10
set_option maxRecDepth 100000 in
theorem mJString_length__S12 (l : Launch) (D : va_G) (K : Nat → ClassId) (sz : Nat) (r : Int32) (h : fJString_length__S12 = some r) : Met l yJString_length_ (Cond.code yJString_length_ cJString_length_ 1 (Option.some Jvm.ClassFile.FieldType.int) :: cfB) ({ frames := 1, cells := 0, slots := 0, locals := 20 }) (va_Pc [.ref (K 112)] (cf_Pre D K sz ([]))) (va_Qi (fun (x : Int32) (_ : Unit) => x = r) (fun (_ : Unit) t => cf_At D (va_A ([]) sz) ([]) t) (va_A ([]) sz)) 0 0 (va_A ([]) sz) := by
  refine cf_ofW (y := yJString_length_) (As := [.ref (K 112)]) (WS := []) (maxL := 1) (fun A => (va_Qi (fun (x : Int32) (_ : Unit) => x = r) (fun (_ : Unit) t => cf_At D A ([]) t) A)) (by decide) (Nat.le_of_ble_eq_true rfl) ?_
  intro p e s m below meth c A ls En hsz hA hP hD hE hS hl
  have C : (dc_C p s m (([.ref (K 112)] : List Value).toArray) meth c cJString_length_ 1 (Option.some Jvm.ClassFile.FieldType.int) yJString_length_ ∧ cf_E D K A s s.heap ∧ ∀ q, s.heap.size ≤ q → A q) := ⟨En, hE, hA⟩
  exact bJString_length__S12_0 C r h hP hD hS hl
set_option maxHeartbeats 4000000 in
set_option maxRecDepth 100000 in
theorem bAS_inflateIfNeededFor_S12_21 {p : Program} {l : Launch} {e : Env} {s : State} {m : MethodId} {below : List Frame} {meth : Method} {c : Code} {A : Nat → Prop} {D : va_G} {K : Nat → ClassId} {h0 : Nat} {a0 : Nat → Nat} {AR : Array Value} (C : (dc_C p s m AR meth c cAS_inflateIfNeededFor 2 (Option.none : Option Jvm.ClassFile.FieldType) yAS_inflateIfNeededFor ∧ cf_E D K A s s.heap ∧ ∀ q, s.heap.size ≤ q → A q)) (o0 : cf_O) (r : Unit) (h : fAS_inflateIfNeededFor_S12_21 o0 = some r) {H : Heap} {locs : List Loc} {ls : Array Slot} (hP : va_P D vwCl (wSB K h0 a0 o0) H) (hD : va_D A (wSB K h0 a0 o0)) (hS : va_S A s.heap H locs) (hl : lv_has ls 2 []) : W p l e ({ frames := 1, cells := 0, slots := 0, locals := 20 }) s m AR below meth c H locs 0 0 (MQ below (va_Qv (fun (_ : Unit) => True) (fun (_ : Unit) t => cf_At D A (wSB K h0 a0 o0) t) A) AR s 0 0 A) (F0 m 21 ls []) := by
  obtain ⟨⟨hx, hb, hr, hts, hown, hlocks, hin, hml⟩, hE, hA⟩ := id C
  have hK := hE.k
  obtain rfl := Option.some.inj h
  exact dc_vret hx hb hr hlocks rfl hP hD hS dAS_inflateIfNeededFor_21
set_option maxHeartbeats 4000000 in
set_option maxRecDepth 100000 in
theorem bAS_inflateIfNeededFor_S12_0 {p : Program} {l : Launch} {e : Env} {s : State} {m : MethodId} {below : List Frame} {meth : Method} {c : Code} {A : Nat → Prop} {D : va_G} {K : Nat → ClassId} {h0 : Nat} {a0 : Nat → Nat} {AR : Array Value} (C : (dc_C p s m AR meth c cAS_inflateIfNeededFor 2 (Option.none : Option Jvm.ClassFile.FieldType) yAS_inflateIfNeededFor ∧ cf_E D K A s s.heap ∧ ∀ q, s.heap.size ≤ q → A q)) (o0 : cf_O) (r : Unit) (h : fAS_inflateIfNeededFor_S12_0 o0 = some r) {H : Heap} {locs : List Loc} {ls : Array Slot} (hP : va_P D vwCl (wSB K h0 a0 o0) H) (hD : va_D A (wSB K h0 a0 o0)) (hS : va_S A s.heap H locs) (hl : lv_has ls 2 [(0, .ref h0), (1, .ref (K 112))]) : W p l e ({ frames := 1, cells := 0, slots := 0, locals := 20 }) s m AR below meth c H locs 0 0 (MQ below (va_Qv (fun (_ : Unit) => True) (fun (_ : Unit) t => cf_At D A (wSB K h0 a0 o0) t) A) AR s 0 0 A) (F0 m 0 ls []) := by
  obtain ⟨⟨hx, hb, hr, hts, hown, hlocks, hin, hml⟩, hE, hA⟩ := id C
  have hK := hE.k
  refine va_gets hx hb hE.2.2.2.2.2.2.1 hS hown (hts _ wv_444) (fun _ h9 => h9) dAS_inflateIfNeededFor_0 ?_
  refine lv_if_eq (tgt := 21) hx hb dAS_inflateIfNeededFor_3 (by decide) (fun c_1 => absurd c_1 (by decide)) (fun _ => ?_)
  refine lv_aload_n hx hb dAS_inflateIfNeededFor_6 rfl (lv_at hl 0 rfl) ?_
  refine va_get (D := D) (ci := 13) (v := .int (o0.1 1)) (C := RSB) (T := TSB) (N := 4) hx hb hts inSB hown hK hP 0 rfl rfl 1 (by decide) (hts _ wv_454) (fun _ h9 => h9) rfl dAS_inflateIfNeededFor_7 ?_
  refine lv_aload_n hx hb dAS_inflateIfNeededFor_10 rfl (lv_at hl 1 rfl) ?_
  obtain ⟨q_2, hq_2, h⟩ := op_b h
  refine cf_calli (wc := []) (wr := wSB K h0 a0 o0) (va_runV (As := []) (rest := [.int (o0.1 1)]) ⟨hx, hb, hml, hown, hts⟩ (mJString_coder__S12 l D K _ _ hq_2) (cwV 0 hts (cf_GV wv_1619 wv_761 wv_762 wv_168 wv_763) rfl rfl rfl (by decide +kernel) ⟨Nat.le_of_ble_eq_true rfl, Nat.le_of_ble_eq_true rfl⟩) (cf_preO (wc := []) (hE.s 12 rfl).2.1 hE hP hD hS hA [] rfl (by decide +kernel)) rfl rfl hl.1 rfl (lv_room (Nat.le_of_ble_eq_true rfl)) dAS_inflateIfNeededFor_11 ⟨Nat.le_of_ble_eq_true rfl, Nat.le_of_ble_eq_true rfl⟩) hP hD hS hA [] [0, 1] rfl rfl (by decide +kernel) (by decide +kernel) (fun r_3 _ H locs hw_4 hP hD hS => ?_)
  subst r_3
  have hP : va_P D vwCl (wSB K h0 a0 o0) H := hP.sub [0, 1] rfl
  have hD : va_D A (wSB K h0 a0 o0) := hD.sub [0, 1] (by decide +kernel) rfl
  refine lv_icmp_eq (tgt := 21) hx hb dAS_inflateIfNeededFor_14 (by decide) (fun c_5 => ?_) (fun c_5 => ?_)
  · have h := op_t c_5 h
    exact bAS_inflateIfNeededFor_S12_21 C _ _ h hP hD hS (lv_sub hl [] rfl)
  · have h := op_f c_5 h
    refine lv_aload_n hx hb dAS_inflateIfNeededFor_17 rfl (lv_at hl 0 rfl) ?_
    cases h
set_option maxRecDepth 100000 in
theorem mAS_inflateIfNeededFor_S12 (l : Launch) (D : va_G) (K : Nat → ClassId) (sz : Nat) (h0 : Nat) (a0 : Nat → Nat) (o0 : cf_O) (r : Unit) (h : fAS_inflateIfNeededFor_S12 o0 = some r) : Met l yAS_inflateIfNeededFor (Cond.code yAS_inflateIfNeededFor cAS_inflateIfNeededFor 2 (Option.none : Option Jvm.ClassFile.FieldType) :: cfB) ({ frames := 1, cells := 0, slots := 0, locals := 20 }) (va_Pc [.ref h0, .ref (K 112)] (cf_Pre D K sz (wSB K h0 a0 o0))) (va_Qv (fun (_ : Unit) => True) (fun (_ : Unit) t => cf_At D (va_A (wSB K h0 a0 o0) sz) (wSB K h0 a0 o0) t) (va_A (wSB K h0 a0 o0) sz)) 0 0 (va_A (wSB K h0 a0 o0) sz) := by
  refine cf_ofW (y := yAS_inflateIfNeededFor) (As := [.ref h0, .ref (K 112)]) (WS := wSB K h0 a0 o0) (maxL := 2) (fun A => (va_Qv (fun (_ : Unit) => True) (fun (_ : Unit) t => cf_At D A (wSB K h0 a0 o0) t) A)) (by decide) (Nat.le_of_ble_eq_true rfl) ?_
  intro p e s m below meth c A ls En hsz hA hP hD hE hS hl
  have C : (dc_C p s m (([.ref h0, .ref (K 112)] : List Value).toArray) meth c cAS_inflateIfNeededFor 2 (Option.none : Option Jvm.ClassFile.FieldType) yAS_inflateIfNeededFor ∧ cf_E D K A s s.heap ∧ ∀ q, s.heap.size ≤ q → A q) := ⟨En, hE, hA⟩
  exact bAS_inflateIfNeededFor_S12_0 C o0 r h hP hD hS hl
set_option maxRecDepth 100000 in
theorem nJString_getBytes_ABIB_S12_SB0_0 (v2 : Int32) (v3 : Int32) (o0 : cf_O) (r : cf_O) (h : fJString_getBytes_ABIB_S12_SB0_0 v2 v3 o0 = some r) : phSB o0 ≤ phSB r := by
  have hm : phSB o0 ≤ phSB o0 := Nat.le_refl _
  obtain ⟨q_1, hq_1, h⟩ := op_b h
  rcases (Classical.em (q_1 = v3)).symm with c_4 | c_4
  · have h := op_f c_4 h
    cases h
  · have h := op_t c_4 h
    obtain ⟨x_5, ex_5, h⟩ := op_kx h
    obtain ⟨hi_6, h⟩ := op_n h
    obtain ⟨o_7, eo_7, h⟩ := op_kx h
    have hm : phSB o0 ≤ phSB o_7 := by rw [eo_7]; exact hm
    obtain rfl := Option.some.inj h
    exact hm
theorem nJString_getBytes_ABIB_S12_SB0 (v2 : Int32) (v3 : Int32) (o0 : cf_O) (r : cf_O) (h : fJString_getBytes_ABIB_S12_SB0 v2 v3 o0 = some r) : phSB o0 ≤ phSB r := nJString_getBytes_ABIB_S12_SB0_0  v2 v3 o0 r h
set_option maxHeartbeats 4000000 in
set_option maxRecDepth 100000 in
theorem bJString_getBytes_ABIB_S12_SB0_0 {p : Program} {l : Launch} {e : Env} {s : State} {m : MethodId} {below : List Frame} {meth : Method} {c : Code} {A : Nat → Prop} {D : va_G} {K : Nat → ClassId} {h0 : Nat} {a0 : Nat → Nat} {AR : Array Value} (C : (dc_C p s m AR meth c cJString_getBytes_ABIB 4 (Option.none : Option Jvm.ClassFile.FieldType) yJString_getBytes_ABIB ∧ cf_E D K A s s.heap ∧ ∀ q, s.heap.size ≤ q → A q)) (v2 : Int32) (v3 : Int32) (o0 : cf_O) (r : cf_O) (h : fJString_getBytes_ABIB_S12_SB0_0 v2 v3 o0 = some r) {H : Heap} {locs : List Loc} {ls : Array Slot} (hP : va_P D vwCl (wSB K h0 a0 o0) H) (hD : va_D A (wSB K h0 a0 o0)) (hS : va_S A s.heap H locs) (hl : lv_has ls 4 [(0, .ref (K 112)), (1, .ref (a0 0)), (2, .int v2), (3, .int v3)]) : W p l e ({ frames := 1, cells := 0, slots := 0, locals := 60 }) s m AR below meth c H locs 0 0 (MQ below (va_Qv (fun (_ : Unit) => True) (fun (_ : Unit) t => cf_At D A (wSB K h0 a0 r) t) A) AR s 0 0 A) (F0 m 0 ls []) := by
  obtain ⟨⟨hx, hb, hr, hts, hown, hlocks, hin, hml⟩, hE, hA⟩ := id C
  have hK := hE.k
  refine lv_aload_n hx hb dJString_getBytes_ABIB_0 rfl (lv_at hl 0 rfl) ?_
  obtain ⟨q_1, hq_1, h⟩ := op_b h
  refine cf_calli (wc := []) (wr := wSB K h0 a0 o0) (va_runV (As := []) (rest := []) ⟨hx, hb, hml, hown, hts⟩ (mJString_coder__S12 l D K _ _ hq_1) (cwV 0 hts (cf_GV wv_760 wv_761 wv_762 wv_168 wv_763) rfl rfl rfl (by decide +kernel) ⟨Nat.le_of_ble_eq_true rfl, Nat.le_of_ble_eq_true rfl⟩) (cf_preO (wc := []) (hE.s 12 rfl).2.1 hE hP hD hS hA [] rfl (by decide +kernel)) rfl rfl hl.1 rfl (lv_room (Nat.le_of_ble_eq_true rfl)) dJString_getBytes_ABIB_1 ⟨Nat.le_of_ble_eq_true rfl, Nat.le_of_ble_eq_true rfl⟩) hP hD hS hA [] [0, 1] rfl rfl (by decide +kernel) (by decide +kernel) (fun r_2 _ H locs hw_3 hP hD hS => ?_)
  subst r_2
  have hP : va_P D vwCl (wSB K h0 a0 o0) H := hP.sub [0, 1] rfl
  have hD : va_D A (wSB K h0 a0 o0) := hD.sub [0, 1] (by decide +kernel) rfl
  refine lv_iload_n hx hb dJString_getBytes_ABIB_4 rfl (lv_at hl 3 rfl) ?_
  refine lv_icmp_ne (tgt := 28) hx hb dJString_getBytes_ABIB_5 (by decide) (fun c_4 => ?_) (fun c_4 => ?_)
  · have h := op_f c_4 h
    refine lv_aload_n hx hb dJString_getBytes_ABIB_28 rfl (lv_at hl 0 rfl) ?_
    refine vk_getf hx hb (hE.s 12 rfl).2.2.2.1 hS hown (hts _ wv_1735) (fun _ h9 => h9) dJString_getBytes_ABIB_29 ?_
    refine lv_iconst (v := 0) hx hb dJString_getBytes_ABIB_32 (by decide) ?_
    refine lv_aload_n hx hb dJString_getBytes_ABIB_33 rfl (lv_at hl 1 rfl) ?_
    refine lv_iload_n hx hb dJString_getBytes_ABIB_34 rfl (lv_at hl 2 rfl) ?_
    refine lv_aload_n hx hb dJString_getBytes_ABIB_35 rfl (lv_at hl 0 rfl) ?_
    refine vk_getf hx hb (hE.s 12 rfl).2.2.2.1 hS hown (hts _ wv_1735) (fun _ h9 => h9) dJString_getBytes_ABIB_36 ?_
    refine va_tlen (v := 6) hx hb (hE.s 12 rfl).2.2.2.2 hS rfl dJString_getBytes_ABIB_39 ?_
    cases h
  · have h := op_t c_4 h
    refine lv_aload_n hx hb dJString_getBytes_ABIB_8 rfl (lv_at hl 0 rfl) ?_
    refine vk_getf hx hb (hE.s 12 rfl).2.2.2.1 hS hown (hts _ wv_1735) (fun _ h9 => h9) dJString_getBytes_ABIB_9 ?_
    refine lv_iconst (v := 0) hx hb dJString_getBytes_ABIB_12 (by decide) ?_
    refine lv_aload_n hx hb dJString_getBytes_ABIB_13 rfl (lv_at hl 1 rfl) ?_
    refine lv_iload_n hx hb dJString_getBytes_ABIB_14 rfl (lv_at hl 2 rfl) ?_
    refine lv_iload_n hx hb dJString_getBytes_ABIB_15 rfl (lv_at hl 3 rfl) ?_
    refine lv_ishl hx hb dJString_getBytes_ABIB_16 ?_
    refine lv_topi (fun x_5 ex_5 => ?_)
    have h := op_ks ex_5 h
    refine lv_aload_n hx hb dJString_getBytes_ABIB_17 rfl (lv_at hl 0 rfl) ?_
    refine vk_getf hx hb (hE.s 12 rfl).2.2.2.1 hS hown (hts _ wv_1735) (fun _ h9 => h9) dJString_getBytes_ABIB_18 ?_
    refine va_tlen (v := 6) hx hb (hE.s 12 rfl).2.2.2.2 hS rfl dJString_getBytes_ABIB_21 ?_
    obtain ⟨hi_6, h⟩ := op_n h
    refine vk_copyt (D := D) (f := cf_sb 12) hx hb (hml.trans hl.1.symm) hown (hts _ wv_1643) (hts _ wv_1295) (hts _ wv_1294) (hts _ wv_187) hK hP hD hS (hE.s 12 rfl).2.2.2.2 1 2 rfl rfl (by decide) (fun z => hi_6 (Or.inl z)) (by decide) (by decide) (Nat.not_lt.mp (fun z => hi_6 (Or.inr z))) (by decide) (Nat.le_of_ble_eq_true rfl) (Nat.le_of_ble_eq_true rfl) dJString_getBytes_ABIB_22 (fun H locs hP hD hS => ?_)
    have hP : va_P D vwCl (wSB K h0 a0 (cb o0 0 12 x_5 6)) H := hP
    have hD : va_D A (wSB K h0 a0 (cb o0 0 12 x_5 6)) := hD
    obtain ⟨o_7, eo_7, h⟩ := op_kx h
    rw [← eo_7] at hP hD
    refine lv_goto (tgt := 43) hx hb dJString_getBytes_ABIB_25 (by decide) ?_
    obtain rfl := Option.some.inj h
    exact dc_vret hx hb hr hlocks rfl hP hD hS dJString_getBytes_ABIB_43
set_option maxRecDepth 100000 in
theorem mJString_getBytes_ABIB_S12_SB0 (l : Launch) (D : va_G) (K : Nat → ClassId) (sz : Nat) (v2 : Int32) (v3 : Int32) (h0 : Nat) (a0 : Nat → Nat) (o0 : cf_O) (r : cf_O) (h : fJString_getBytes_ABIB_S12_SB0 v2 v3 o0 = some r) : Met l yJString_getBytes_ABIB (Cond.code yJString_getBytes_ABIB cJString_getBytes_ABIB 4 (Option.none : Option Jvm.ClassFile.FieldType) :: cfB) ({ frames := 1, cells := 0, slots := 0, locals := 60 }) (va_Pc [.ref (K 112), .ref (a0 0), .int v2, .int v3] (cf_Pre D K sz (wSB K h0 a0 o0))) (va_Qv (fun (_ : Unit) => True) (fun (_ : Unit) t => cf_At D (va_A (wSB K h0 a0 o0) sz) (wSB K h0 a0 r) t) (va_A (wSB K h0 a0 o0) sz)) 0 0 (va_A (wSB K h0 a0 o0) sz) := by
  refine cf_ofW (y := yJString_getBytes_ABIB) (As := [.ref (K 112), .ref (a0 0), .int v2, .int v3]) (WS := wSB K h0 a0 o0) (maxL := 4) (fun A => (va_Qv (fun (_ : Unit) => True) (fun (_ : Unit) t => cf_At D A (wSB K h0 a0 r) t) A)) (by decide) (Nat.le_of_ble_eq_true rfl) ?_
  intro p e s m below meth c A ls En hsz hA hP hD hE hS hl
  have C : (dc_C p s m (([.ref (K 112), .ref (a0 0), .int v2, .int v3] : List Value).toArray) meth c cJString_getBytes_ABIB 4 (Option.none : Option Jvm.ClassFile.FieldType) yJString_getBytes_ABIB ∧ cf_E D K A s s.heap ∧ ∀ q, s.heap.size ≤ q → A q) := ⟨En, hE, hA⟩
  exact bJString_getBytes_ABIB_S12_SB0_0 C v2 v3 o0 r h hP hD hS hl
set_option maxRecDepth 100000 in
theorem nAS_putStringAt_S12_0 (v1 : Int32) (o0 : cf_O) (r : cf_O) (h : fAS_putStringAt_S12_0 v1 o0 = some r) : phSB o0 ≤ phSB r := by
  have hm : phSB o0 ≤ phSB o0 := Nat.le_refl _
  obtain ⟨q_1, hq_1, h⟩ := op_b h
  obtain ⟨q_3, hq_3, h⟩ := op_b h
  have hm : phSB o0 ≤ phSB q_3 := Nat.le_trans hm (nJString_getBytes_ABIB_S12_SB0 _ _ _ _ hq_3)
  obtain rfl := Option.some.inj h
  exact hm
theorem nAS_putStringAt_S12 (v1 : Int32) (o0 : cf_O) (r : cf_O) (h : fAS_putStringAt_S12 v1 o0 = some r) : phSB o0 ≤ phSB r := nAS_putStringAt_S12_0  v1 o0 r h
set_option maxHeartbeats 4000000 in
set_option maxRecDepth 100000 in
theorem bAS_putStringAt_S12_0 {p : Program} {l : Launch} {e : Env} {s : State} {m : MethodId} {below : List Frame} {meth : Method} {c : Code} {A : Nat → Prop} {D : va_G} {K : Nat → ClassId} {h0 : Nat} {a0 : Nat → Nat} {AR : Array Value} (C : (dc_C p s m AR meth c cAS_putStringAt 3 (Option.none : Option Jvm.ClassFile.FieldType) yAS_putStringAt ∧ cf_E D K A s s.heap ∧ ∀ q, s.heap.size ≤ q → A q)) (v1 : Int32) (o0 : cf_O) (r : cf_O) (h : fAS_putStringAt_S12_0 v1 o0 = some r) {H : Heap} {locs : List Loc} {ls : Array Slot} (hP : va_P D vwCl (wSB K h0 a0 o0) H) (hD : va_D A (wSB K h0 a0 o0)) (hS : va_S A s.heap H locs) (hl : lv_has ls 3 [(0, .ref h0), (1, .int v1), (2, .ref (K 112))]) : W p l e ({ frames := 2, cells := 0, slots := 0, locals := 83 }) s m AR below meth c H locs 0 0 (MQ below (va_Qv (fun (_ : Unit) => True) (fun (_ : Unit) t => cf_At D A (wSB K h0 a0 r) t) A) AR s 0 0 A) (F0 m 0 ls []) := by
  obtain ⟨⟨hx, hb, hr, hts, hown, hlocks, hin, hml⟩, hE, hA⟩ := id C
  have hK := hE.k
  refine lv_aload_n hx hb dAS_putStringAt_0 rfl (lv_at hl 0 rfl) ?_
  refine lv_aload_n hx hb dAS_putStringAt_1 rfl (lv_at hl 2 rfl) ?_
  obtain ⟨q_1, hq_1, h⟩ := op_b h
  refine dc_callv (va_runU (As := [.ref (K 112)]) (rest := []) ⟨hx, hb, hml, hown, hts⟩ (mAS_inflateIfNeededFor_S12 l D K _ h0 a0 o0 _ hq_1) (cf_cwU (C := "java/lang/StringBuilder") 1 hts (cf_G1 wv_1618) rfl rfl rfl (hts _ wv_166) (hts _ wv_1615) (hts _ wv_2793) (va_Nw.use rfl (hE.n 32 rfl)) (hts _ wv_1617) (by decide +kernel) ⟨Nat.le_of_ble_eq_true rfl, Nat.le_of_ble_eq_true rfl⟩) (dc_preV hE hP hD hS hA rfl 0 rfl) rfl rfl hl.1 rfl (lv_room (Nat.le_of_ble_eq_true rfl)) dAS_putStringAt_2 ⟨Nat.le_of_ble_eq_true rfl, Nat.le_of_ble_eq_true rfl⟩) hP hD hS hA (fun H locs hP hD hS => ?_)
  refine lv_aload_n hx hb dAS_putStringAt_5 rfl (lv_at hl 2 rfl) ?_
  refine lv_aload_n hx hb dAS_putStringAt_6 rfl (lv_at hl 0 rfl) ?_
  refine va_get (D := D) (ci := 13) (v := .ref (a0 0)) (C := RSB) (T := TSB) (N := 4) hx hb hts inSB hown hK hP 0 rfl rfl 0 (by decide) (hts _ wv_453) (fun _ h9 => h9) rfl dAS_putStringAt_7 ?_
  refine lv_iload_n hx hb dAS_putStringAt_10 rfl (lv_at hl 1 rfl) ?_
  refine lv_aload_n hx hb dAS_putStringAt_11 rfl (lv_at hl 0 rfl) ?_
  refine va_get (D := D) (ci := 13) (v := .int (o0.1 1)) (C := RSB) (T := TSB) (N := 4) hx hb hts inSB hown hK hP 0 rfl rfl 1 (by decide) (hts _ wv_454) (fun _ h9 => h9) rfl dAS_putStringAt_12 ?_
  obtain ⟨q_3, hq_3, h⟩ := op_b h
  refine cf_callv (wc := wSB K h0 a0 o0) (wr := []) (va_runV (As := [.ref (a0 0), .int v1, .int (o0.1 1)]) (rest := []) ⟨hx, hb, hml, hown, hts⟩ (mJString_getBytes_ABIB_S12_SB0 l D K _ v1 (o0.1 1) h0 a0 o0 _ hq_3) (cwV 3 hts (cf_GV wv_1639 wv_1640 wv_1641 wv_168 wv_1642) rfl rfl rfl (by decide +kernel) ⟨Nat.le_of_ble_eq_true rfl, Nat.le_of_ble_eq_true rfl⟩) (cf_preO (wc := wSB K h0 a0 o0) (hE.s 12 rfl).2.1 hE hP hD hS hA [0, 1] rfl (by decide +kernel)) rfl rfl hl.1 rfl (lv_room (Nat.le_of_ble_eq_true rfl)) dAS_putStringAt_15 ⟨Nat.le_of_ble_eq_true rfl, Nat.le_of_ble_eq_true rfl⟩) hP hD hS hA [0, 1] [] rfl rfl (by decide +kernel) (by decide +kernel) (fun _ H locs hw_4 hP hD hS => ?_)
  have hP : va_P D vwCl (wSB K h0 a0 q_3) H := hP.sub [0, 1] rfl
  have hD : va_D A (wSB K h0 a0 q_3) := hD.sub [0, 1] (by decide +kernel) rfl
  obtain rfl := Option.some.inj h
  exact dc_vret hx hb hr hlocks rfl hP hD hS dAS_putStringAt_18
set_option maxRecDepth 100000 in
theorem mAS_putStringAt_S12 (l : Launch) (D : va_G) (K : Nat → ClassId) (sz : Nat) (v1 : Int32) (h0 : Nat) (a0 : Nat → Nat) (o0 : cf_O) (r : cf_O) (h : fAS_putStringAt_S12 v1 o0 = some r) : Met l yAS_putStringAt (Cond.code yAS_putStringAt cAS_putStringAt 3 (Option.none : Option Jvm.ClassFile.FieldType) :: cfB) ({ frames := 2, cells := 0, slots := 0, locals := 83 }) (va_Pc [.ref h0, .int v1, .ref (K 112)] (cf_Pre D K sz (wSB K h0 a0 o0))) (va_Qv (fun (_ : Unit) => True) (fun (_ : Unit) t => cf_At D (va_A (wSB K h0 a0 o0) sz) (wSB K h0 a0 r) t) (va_A (wSB K h0 a0 o0) sz)) 0 0 (va_A (wSB K h0 a0 o0) sz) := by
  refine cf_ofW (y := yAS_putStringAt) (As := [.ref h0, .int v1, .ref (K 112)]) (WS := wSB K h0 a0 o0) (maxL := 3) (fun A => (va_Qv (fun (_ : Unit) => True) (fun (_ : Unit) t => cf_At D A (wSB K h0 a0 r) t) A)) (by decide) (Nat.le_of_ble_eq_true rfl) ?_
  intro p e s m below meth c A ls En hsz hA hP hD hE hS hl
  have C : (dc_C p s m (([.ref h0, .int v1, .ref (K 112)] : List Value).toArray) meth c cAS_putStringAt 3 (Option.none : Option Jvm.ClassFile.FieldType) yAS_putStringAt ∧ cf_E D K A s s.heap ∧ ∀ q, s.heap.size ≤ q → A q) := ⟨En, hE, hA⟩
  exact bAS_putStringAt_S12_0 C v1 o0 r h hP hD hS hl
set_option maxRecDepth 100000 in
theorem nAS_appendS_S12_33 (v2 : Int32) (o0 : cf_O) (r : cf_O) (h : fAS_appendS_S12_33 v2 o0 = some r) : phSB o0 ≤ phSB r := by
  have hm : phSB o0 ≤ phSB o0 := Nat.le_refl _
  obtain ⟨x_1, ex_1, h⟩ := op_kx h
  obtain ⟨o_2, eo_2, h⟩ := op_kx h
  have hm : phSB o0 ≤ phSB o_2 := by rw [eo_2]; exact hm
  obtain rfl := Option.some.inj h
  exact hm
set_option maxRecDepth 100000 in
theorem nAS_appendS_S12_24 (v2 : Int32) (o0 : cf_O) (r : cf_O) (h : fAS_appendS_S12_24 v2 o0 = some r) : phSB o0 ≤ phSB r := by
  have hm : phSB o0 ≤ phSB o0 := Nat.le_refl _
  obtain ⟨q_1, hq_1, h⟩ := op_b h
  have hm : phSB o0 ≤ phSB q_1 := Nat.le_trans hm (nAS_putStringAt_S12 _ _ _ hq_1)
  exact Nat.le_trans hm (nAS_appendS_S12_33 _ _ _ h)
set_option maxRecDepth 100000 in
theorem nAS_appendS_S12_13 (s0 : Int32) (o0 : cf_O) (r : cf_O) (h : fAS_appendS_S12_13 s0 o0 = some r) : phSB o0 ≤ phSB r := by
  have hm : phSB o0 ≤ phSB o0 := Nat.le_refl _
  obtain ⟨x_1, ex_1, h⟩ := op_kx h
  obtain ⟨q_2, hq_2, h⟩ := op_b h
  have hm : phSB o0 ≤ phSB q_2 := Nat.le_trans hm (nAS_ensureCapacityInternal _ _ _ hq_2)
  exact Nat.le_trans hm (nAS_appendS_S12_24 _ _ _ h)
set_option maxRecDepth 100000 in
theorem nAS_appendS_S12_0 (o0 : cf_O) (r : cf_O) (h : fAS_appendS_S12_0 o0 = some r) : phSB o0 ≤ phSB r := by
  have hm : phSB o0 ≤ phSB o0 := Nat.le_refl _
  obtain ⟨q_1, hq_1, h⟩ := op_b h
  exact Nat.le_trans hm (nAS_appendS_S12_13 _ _ _ h)
theorem nAS_appendS_S12 (o0 : cf_O) (r : cf_O) (h : fAS_appendS_S12 o0 = some r) : phSB o0 ≤ phSB r := nAS_appendS_S12_0  o0 r h
set_option maxHeartbeats 4000000 in
set_option maxRecDepth 100000 in
theorem bAS_appendS_S12_33 {p : Program} {l : Launch} {e : Env} {s : State} {m : MethodId} {below : List Frame} {meth : Method} {c : Code} {A : Nat → Prop} {D : va_G} {K : Nat → ClassId} {h0 : Nat} {os : cf_O} {AR : Array Value} (C : (dc_C p s m AR meth c cAS_appendS 3 (Option.some (Jvm.ClassFile.FieldType.object "java/lang/AbstractStringBuilder")) yAS_appendS ∧ cf_E D K A s s.heap ∧ ∀ q, s.heap.size ≤ q → A q)) (v2 : Int32) (o0 : cf_O) (r : cf_O) (h : fAS_appendS_S12_33 v2 o0 = some r) {a0 : Nat → Nat} {H : Heap} {locs : List Loc} {ls : Array Slot} (hg : phSB os ≤ phSB o0) (hP : va_P D vwCl (wSB K h0 a0 o0) H) (hD : va_D A (wSB K h0 a0 o0)) (hS : va_S A s.heap H locs) (hl : lv_has ls 3 [(0, .ref h0), (2, .int v2)]) : W p l e ({ frames := 4, cells := (gC (phSB os) (phSB r)), slots := (gS (phSB os) (phSB r)), locals := 124 }) s m AR below meth c H locs (gC (phSB os) (phSB o0)) (gS (phSB os) (phSB o0)) (MQ below (va_Qr (fun (_ : Nat → Nat) => True) (fun (u : Nat → Nat) q t => cf_At D A (wSB K h0 u r) t ∧ q = h0) A) AR s (gC (phSB os) (phSB r)) (gS (phSB os) (phSB r)) A) (F0 m 33 ls []) := by
  obtain ⟨⟨hx, hb, hr, hts, hown, hlocks, hin, hml⟩, hE, hA⟩ := id C
  have hK := hE.k
  refine lv_aload_n hx hb dAS_appendS_33 rfl (lv_at hl 0 rfl) ?_
  refine lv_dup hx hb dAS_appendS_34 rfl ?_
  refine va_get (D := D) (ci := 13) (v := .int (o0.1 3)) (C := RSB) (T := TSB) (N := 4) hx hb hts inSB hown hK hP 0 rfl rfl 3 (by decide) (hts _ wv_457) (fun _ h9 => h9) rfl dAS_appendS_35 ?_
  refine lv_iload_n hx hb dAS_appendS_38 rfl (lv_at hl 1 rfl) ?_
  refine lv_iadd hx hb dAS_appendS_39 ?_
  refine lv_topi (fun x_1 ex_1 => ?_)
  have h := op_ks ex_1 h
  refine va_put (D := D) (ci := 13) (v := .int x_1) (ty := .int) (C := RSB) (T := TSB) (N := 4) hx hb hts inSB tySB tyokSB nmSB hown hK hP hD hS 0 rfl rfl 3 (by decide) (hts _ wv_457) (fun _ h9 => h9) rfl (by decide +kernel) rfl rfl (Nat.le_of_ble_eq_true rfl) dAS_appendS_40 (fun H locs hP hD hS => ?_)
  have hP : va_P D vwCl (wSB K h0 a0 (fp o0 3 x_1)) H := hP
  have hD : va_D A (wSB K h0 a0 (fp o0 3 x_1)) := hD
  obtain ⟨o_2, eo_2, h⟩ := op_kx h
  rw [← eo_2] at hP hD
  have hf_3 : phSB o_2 = phSB o0 := by rw [eo_2]; rfl
  refine W.widen (k := (gC (phSB os) (phSB o_2))) (n := (gS (phSB os) (phSB o_2))) (by rw [hf_3]; exact Nat.le_refl _) (by rw [hf_3]; exact Nat.le_refl _) ?_
  have hg : phSB os ≤ phSB o_2 := by rw [hf_3]; exact hg
  refine lv_aload_n hx hb dAS_appendS_43 rfl (lv_at hl 0 rfl) ?_
  obtain rfl := Option.some.inj h
  exact dc_aretG a0 hx hb hr ⟨_, rfl⟩ hlocks hP hD hS dAS_appendS_44
set_option maxHeartbeats 4000000 in
set_option maxRecDepth 100000 in
theorem bAS_appendS_S12_24 {p : Program} {l : Launch} {e : Env} {s : State} {m : MethodId} {below : List Frame} {meth : Method} {c : Code} {A : Nat → Prop} {D : va_G} {K : Nat → ClassId} {h0 : Nat} {os : cf_O} {AR : Array Value} (C : (dc_C p s m AR meth c cAS_appendS 3 (Option.some (Jvm.ClassFile.FieldType.object "java/lang/AbstractStringBuilder")) yAS_appendS ∧ cf_E D K A s s.heap ∧ ∀ q, s.heap.size ≤ q → A q)) (v2 : Int32) (o0 : cf_O) (r : cf_O) (h : fAS_appendS_S12_24 v2 o0 = some r) {a0 : Nat → Nat} {H : Heap} {locs : List Loc} {ls : Array Slot} (hg : phSB os ≤ phSB o0) (hP : va_P D vwCl (wSB K h0 a0 o0) H) (hD : va_D A (wSB K h0 a0 o0)) (hS : va_S A s.heap H locs) (hl : lv_has ls 3 [(0, .ref h0), (1, .ref (K 112)), (2, .int v2)]) : W p l e ({ frames := 4, cells := (gC (phSB os) (phSB r)), slots := (gS (phSB os) (phSB r)), locals := 124 }) s m AR below meth c H locs (gC (phSB os) (phSB o0)) (gS (phSB os) (phSB o0)) (MQ below (va_Qr (fun (_ : Nat → Nat) => True) (fun (u : Nat → Nat) q t => cf_At D A (wSB K h0 u r) t ∧ q = h0) A) AR s (gC (phSB os) (phSB r)) (gS (phSB os) (phSB r)) A) (F0 m 24 ls []) := by
  obtain ⟨⟨hx, hb, hr, hts, hown, hlocks, hin, hml⟩, hE, hA⟩ := id C
  have hK := hE.k
  refine lv_aload_n hx hb dAS_appendS_24 rfl (lv_at hl 0 rfl) ?_
  refine lv_aload_n hx hb dAS_appendS_25 rfl (lv_at hl 0 rfl) ?_
  refine va_get (D := D) (ci := 13) (v := .int (o0.1 3)) (C := RSB) (T := TSB) (N := 4) hx hb hts inSB hown hK hP 0 rfl rfl 3 (by decide) (hts _ wv_457) (fun _ h9 => h9) rfl dAS_appendS_26 ?_
  refine lv_aload_n hx hb dAS_appendS_29 rfl (lv_at hl 1 rfl) ?_
  obtain ⟨q_1, hq_1, h⟩ := op_b h
  have hgr_2 : phSB q_1 ≤ phSB r := nAS_appendS_S12_33 _ _ _ h
  have hg2_3 : phSB o0 ≤ phSB q_1 := nAS_putStringAt_S12 _ _ _ hq_1
  refine dc_callv (va_runU (As := [.int (o0.1 3), .ref (K 112)]) (rest := []) ⟨hx, hb, hml, hown, hts⟩ (mAS_putStringAt_S12 l D K _ (o0.1 3) h0 a0 o0 _ hq_1) (cf_cwU (C := "java/lang/StringBuilder") 2 hts (cf_G1 wv_1614) rfl rfl rfl (hts _ wv_166) (hts _ wv_1611) (hts _ wv_2792) (va_Nw.use rfl (hE.n 31 rfl)) (hts _ wv_1613) (by decide +kernel) ⟨Nat.le_of_ble_eq_true rfl, Nat.le_of_ble_eq_true rfl⟩) (dc_preV hE hP hD hS hA rfl 0 rfl) rfl rfl hl.1 rfl (lv_room (Nat.le_of_ble_eq_true rfl)) dAS_appendS_30 ⟨gC_le (Nat.le_trans hg2_3 hgr_2), gS_le (Nat.le_trans hg2_3 hgr_2)⟩) hP hD hS hA (fun H locs hP hD hS => ?_)
  refine W.widen (k := (gC (phSB os) (phSB q_1))) (n := (gS (phSB os) (phSB q_1))) (gC_le hg2_3) (gS_le hg2_3) ?_
  have hg : phSB os ≤ phSB q_1 := Nat.le_trans hg hg2_3
  exact bAS_appendS_S12_33 C _ _ _ h hg hP hD hS (lv_sub hl [0, 2] rfl)
set_option maxHeartbeats 4000000 in
set_option maxRecDepth 100000 in
theorem bAS_appendS_S12_13 {p : Program} {l : Launch} {e : Env} {s : State} {m : MethodId} {below : List Frame} {meth : Method} {c : Code} {A : Nat → Prop} {D : va_G} {K : Nat → ClassId} {h0 : Nat} {os : cf_O} {AR : Array Value} (C : (dc_C p s m AR meth c cAS_appendS 3 (Option.some (Jvm.ClassFile.FieldType.object "java/lang/AbstractStringBuilder")) yAS_appendS ∧ cf_E D K A s s.heap ∧ ∀ q, s.heap.size ≤ q → A q)) (s0 : Int32) (o0 : cf_O) (r : cf_O) (h : fAS_appendS_S12_13 s0 o0 = some r) {a0 : Nat → Nat} {H : Heap} {locs : List Loc} {ls : Array Slot} (hg : phSB os ≤ phSB o0) (hP : va_P D vwCl (wSB K h0 a0 o0) H) (hD : va_D A (wSB K h0 a0 o0)) (hS : va_S A s.heap H locs) (hl : lv_has ls 3 [(0, .ref h0), (1, .ref (K 112))]) : W p l e ({ frames := 4, cells := (gC (phSB os) (phSB r)), slots := (gS (phSB os) (phSB r)), locals := 124 }) s m AR below meth c H locs (gC (phSB os) (phSB o0)) (gS (phSB os) (phSB o0)) (MQ below (va_Qr (fun (_ : Nat → Nat) => True) (fun (u : Nat → Nat) q t => cf_At D A (wSB K h0 u r) t ∧ q = h0) A) AR s (gC (phSB os) (phSB r)) (gS (phSB os) (phSB r)) A) (F0 m 13 ls [.int s0]) := by
  obtain ⟨⟨hx, hb, hr, hts, hown, hlocks, hin, hml⟩, hE, hA⟩ := id C
  have hK := hE.k
  refine lv_istore_n (lv' := [(2, .int s0), (0, .ref h0), (1, .ref (K 112))]) hx hb dAS_appendS_13 rfl hl (by decide) rfl (fun ls hl => ?_)
  refine lv_aload_n hx hb dAS_appendS_14 rfl (lv_at hl 1 rfl) ?_
  refine lv_aload_n hx hb dAS_appendS_15 rfl (lv_at hl 1 rfl) ?_
  refine va_get (D := D) (ci := 13) (v := .int (o0.1 3)) (C := RSB) (T := TSB) (N := 4) hx hb hts inSB hown hK hP 0 rfl rfl 3 (by decide) (hts _ wv_457) (fun _ h9 => h9) rfl dAS_appendS_16 ?_
  refine lv_iload_n hx hb dAS_appendS_19 rfl (lv_at hl 0 rfl) ?_
  refine lv_iadd hx hb dAS_appendS_20 ?_
  refine lv_topi (fun x_1 ex_1 => ?_)
  have h := op_ks ex_1 h
  obtain ⟨q_2, hq_2, h⟩ := op_b h
  have hgr_3 : phSB q_2 ≤ phSB r := nAS_appendS_S12_24 _ _ _ h
  have hg2_4 : phSB o0 ≤ phSB q_2 := nAS_ensureCapacityInternal _ _ _ hq_2
  refine cf_callv (wc := wSB K h0 a0 o0) (wr := []) (va_runU (As := [.int x_1]) (rest := []) ⟨hx, hb, hml, hown, hts⟩ (mAS_ensureCapacityInternal l D K _ x_1 h0 a0 o0 _ hq_2) (cf_cwU (C := "java/lang/StringBuilder") 1 hts (cf_G1 wv_1568) rfl rfl rfl (hts _ wv_166) (hts _ wv_1565) (hts _ wv_2790) (va_Nw.use rfl (hE.n 29 rfl)) (hts _ wv_1567) (by decide +kernel) ⟨Nat.le_of_ble_eq_true rfl, Nat.le_of_ble_eq_true rfl⟩) (cf_preV (wc := wSB K h0 a0 o0) hE hP hD hS hA rfl 0 rfl [0, 1] rfl (by decide +kernel)) rfl rfl hl.1 rfl (lv_room (Nat.le_of_ble_eq_true rfl)) dAS_appendS_21 ⟨Nat.le_trans (gC_add hg hg2_4) (gC_le hgr_3), Nat.le_trans (gS_add hg hg2_4) (gS_le hgr_3)⟩) hP hD hS hA [0, 1] [] rfl rfl (by decide +kernel) (by decide +kernel) (fun a0_6 H locs hw_5 hP hD hS => ?_)
  have hP : va_P D vwCl (wSB K h0 a0_6 q_2) H := hP.sub [0, 1] rfl
  have hD : va_D A (wSB K h0 a0_6 q_2) := hD.sub [0, 1] (by decide +kernel) rfl
  refine W.widen (k := (gC (phSB os) (phSB q_2))) (n := (gS (phSB os) (phSB q_2))) (gC_add hg hg2_4) (gS_add hg hg2_4) ?_
  have hg : phSB os ≤ phSB q_2 := Nat.le_trans hg hg2_4
  exact bAS_appendS_S12_24 C _ _ _ h hg hP hD hS (lv_sub hl [1, 2, 0] rfl)
set_option maxHeartbeats 4000000 in
set_option maxRecDepth 100000 in
theorem bAS_appendS_S12_0 {p : Program} {l : Launch} {e : Env} {s : State} {m : MethodId} {below : List Frame} {meth : Method} {c : Code} {A : Nat → Prop} {D : va_G} {K : Nat → ClassId} {h0 : Nat} {os : cf_O} {AR : Array Value} (C : (dc_C p s m AR meth c cAS_appendS 3 (Option.some (Jvm.ClassFile.FieldType.object "java/lang/AbstractStringBuilder")) yAS_appendS ∧ cf_E D K A s s.heap ∧ ∀ q, s.heap.size ≤ q → A q)) (o0 : cf_O) (r : cf_O) (h : fAS_appendS_S12_0 o0 = some r) {a0 : Nat → Nat} {H : Heap} {locs : List Loc} {ls : Array Slot} (hg : phSB os ≤ phSB o0) (hP : va_P D vwCl (wSB K h0 a0 o0) H) (hD : va_D A (wSB K h0 a0 o0)) (hS : va_S A s.heap H locs) (hl : lv_has ls 3 [(0, .ref h0), (1, .ref (K 112))]) : W p l e ({ frames := 4, cells := (gC (phSB os) (phSB r)), slots := (gS (phSB os) (phSB r)), locals := 124 }) s m AR below meth c H locs (gC (phSB os) (phSB o0)) (gS (phSB os) (phSB o0)) (MQ below (va_Qr (fun (_ : Nat → Nat) => True) (fun (u : Nat → Nat) q t => cf_At D A (wSB K h0 u r) t ∧ q = h0) A) AR s (gC (phSB os) (phSB r)) (gS (phSB os) (phSB r)) A) (F0 m 0 ls []) := by
  obtain ⟨⟨hx, hb, hr, hts, hown, hlocks, hin, hml⟩, hE, hA⟩ := id C
  have hK := hE.k
  refine lv_aload_n hx hb dAS_appendS_0 rfl (lv_at hl 1 rfl) ?_
  refine lv_ifnonnull (tgt := 9) hx hb dAS_appendS_1 (by decide) ?_
  refine lv_aload_n hx hb dAS_appendS_9 rfl (lv_at hl 1 rfl) ?_
  obtain ⟨q_1, hq_1, h⟩ := op_b h
  have hgr_2 : phSB o0 ≤ phSB r := nAS_appendS_S12_13 _ _ _ h
  refine cf_calli (wc := []) (wr := wSB K h0 a0 o0) (va_runV (As := []) (rest := []) ⟨hx, hb, hml, hown, hts⟩ (mJString_length__S12 l D K _ _ hq_1) (cwV 0 hts (cf_GV wv_1610 wv_757 wv_758 wv_168 wv_759) rfl rfl rfl (by decide +kernel) ⟨Nat.le_of_ble_eq_true rfl, Nat.le_of_ble_eq_true rfl⟩) (cf_preO (wc := []) (hE.s 12 rfl).2.1 hE hP hD hS hA [] rfl (by decide +kernel)) rfl rfl hl.1 rfl (lv_room (Nat.le_of_ble_eq_true rfl)) dAS_appendS_10 ⟨gC_le hgr_2, gS_le hgr_2⟩) hP hD hS hA [] [0, 1] rfl rfl (by decide +kernel) (by decide +kernel) (fun r_4 _ H locs hw_5 hP hD hS => ?_)
  subst r_4
  have hP : va_P D vwCl (wSB K h0 a0 o0) H := hP.sub [0, 1] rfl
  have hD : va_D A (wSB K h0 a0 o0) := hD.sub [0, 1] (by decide +kernel) rfl
  refine W.widen (k := (gC (phSB os) (phSB o0))) (n := (gS (phSB os) (phSB o0))) (Nat.le_refl _) (Nat.le_refl _) ?_
  exact bAS_appendS_S12_13 C _ _ _ h hg hP hD hS (lv_sub hl [0, 1] rfl)
set_option maxRecDepth 100000 in
theorem mAS_appendS_S12 (l : Launch) (D : va_G) (K : Nat → ClassId) (sz : Nat) (h0 : Nat) (a0 : Nat → Nat) (o0 : cf_O) (r : cf_O) (h : fAS_appendS_S12 o0 = some r) : Met l yAS_appendS (Cond.code yAS_appendS cAS_appendS 3 (Option.some (Jvm.ClassFile.FieldType.object "java/lang/AbstractStringBuilder")) :: cfB) ({ frames := 4, cells := (gC (phSB o0) (phSB r)), slots := (gS (phSB o0) (phSB r)), locals := 124 }) (va_Pc [.ref h0, .ref (K 112)] (cf_Pre D K sz (wSB K h0 a0 o0))) (va_Qr (fun (_ : Nat → Nat) => True) (fun (u : Nat → Nat) q t => cf_At D (va_A (wSB K h0 a0 o0) sz) (wSB K h0 u r) t ∧ q = h0) (va_A (wSB K h0 a0 o0) sz)) (gC (phSB o0) (phSB r)) (gS (phSB o0) (phSB r)) (va_A (wSB K h0 a0 o0) sz) := by
  refine cf_ofW (y := yAS_appendS) (As := [.ref h0, .ref (K 112)]) (WS := wSB K h0 a0 o0) (maxL := 3) (fun A => (va_Qr (fun (_ : Nat → Nat) => True) (fun (u : Nat → Nat) q t => cf_At D A (wSB K h0 u r) t ∧ q = h0) A)) (by decide) (Nat.le_of_ble_eq_true rfl) ?_
  intro p e s m below meth c A ls En hsz hA hP hD hE hS hl
  have C : (dc_C p s m (([.ref h0, .ref (K 112)] : List Value).toArray) meth c cAS_appendS 3 (Option.some (Jvm.ClassFile.FieldType.object "java/lang/AbstractStringBuilder")) yAS_appendS ∧ cf_E D K A s s.heap ∧ ∀ q, s.heap.size ≤ q → A q) := ⟨En, hE, hA⟩
  refine W.widen (k := gC (phSB o0) (phSB o0)) (n := gS (phSB o0) (phSB o0)) (Nat.zero_le _) (Nat.zero_le _) ?_
  exact bAS_appendS_S12_0 C o0 r h (Nat.le_refl _) hP hD hS hl
set_option maxRecDepth 100000 in
theorem nSB_appendS_S12_5 (o0 : cf_O) (r : cf_O) (h : fSB_appendS_S12_5 o0 = some r) : phSB o0 ≤ phSB r := by
  have hm : phSB o0 ≤ phSB o0 := Nat.le_refl _
  obtain rfl := Option.some.inj h
  exact hm
set_option maxRecDepth 100000 in
theorem nSB_appendS_S12_0 (o0 : cf_O) (r : cf_O) (h : fSB_appendS_S12_0 o0 = some r) : phSB o0 ≤ phSB r := by
  have hm : phSB o0 ≤ phSB o0 := Nat.le_refl _
  obtain ⟨q_1, hq_1, h⟩ := op_b h
  have hm : phSB o0 ≤ phSB q_1 := Nat.le_trans hm (nAS_appendS_S12 _ _ hq_1)
  exact Nat.le_trans hm (nSB_appendS_S12_5 _ _ h)
theorem nSB_appendS_S12 (o0 : cf_O) (r : cf_O) (h : fSB_appendS_S12 o0 = some r) : phSB o0 ≤ phSB r := nSB_appendS_S12_0  o0 r h
set_option maxHeartbeats 4000000 in
set_option maxRecDepth 100000 in
theorem bSB_appendS_S12_5 {p : Program} {l : Launch} {e : Env} {s : State} {m : MethodId} {below : List Frame} {meth : Method} {c : Code} {A : Nat → Prop} {D : va_G} {K : Nat → ClassId} {h0 : Nat} {os : cf_O} {AR : Array Value} (C : (dc_C p s m AR meth c cSB_appendS 2 (Option.some (Jvm.ClassFile.FieldType.object "java/lang/StringBuilder")) ySB_appendS ∧ cf_E D K A s s.heap ∧ ∀ q, s.heap.size ≤ q → A q)) (o0 : cf_O) (r : cf_O) (h : fSB_appendS_S12_5 o0 = some r) {a0 : Nat → Nat} {H : Heap} {locs : List Loc} {ls : Array Slot} (hg : phSB os ≤ phSB o0) (hP : va_P D vwCl (wSB K h0 a0 o0) H) (hD : va_D A (wSB K h0 a0 o0)) (hS : va_S A s.heap H locs) (hl : lv_has ls 2 [(0, .ref h0)]) : W p l e ({ frames := 5, cells := (gC (phSB os) (phSB r)), slots := (gS (phSB os) (phSB r)), locals := 146 }) s m AR below meth c H locs (gC (phSB os) (phSB o0)) (gS (phSB os) (phSB o0)) (MQ below (va_Qr (fun (_ : Nat → Nat) => True) (fun (u : Nat → Nat) q t => cf_At D A (wSB K h0 u r) t ∧ q = h0) A) AR s (gC (phSB os) (phSB r)) (gS (phSB os) (phSB r)) A) (F0 m 5 ls [.ref h0]) := by
  obtain ⟨⟨hx, hb, hr, hts, hown, hlocks, hin, hml⟩, hE, hA⟩ := id C
  have hK := hE.k
  refine lv_pop hx hb dSB_appendS_5 rfl ?_
  refine lv_aload_n hx hb dSB_appendS_6 rfl (lv_at hl 0 rfl) ?_
  obtain rfl := Option.some.inj h
  exact dc_aretG a0 hx hb hr ⟨_, rfl⟩ hlocks hP hD hS dSB_appendS_7
set_option maxHeartbeats 4000000 in
set_option maxRecDepth 100000 in
theorem bSB_appendS_S12_0 {p : Program} {l : Launch} {e : Env} {s : State} {m : MethodId} {below : List Frame} {meth : Method} {c : Code} {A : Nat → Prop} {D : va_G} {K : Nat → ClassId} {h0 : Nat} {os : cf_O} {AR : Array Value} (C : (dc_C p s m AR meth c cSB_appendS 2 (Option.some (Jvm.ClassFile.FieldType.object "java/lang/StringBuilder")) ySB_appendS ∧ cf_E D K A s s.heap ∧ ∀ q, s.heap.size ≤ q → A q)) (o0 : cf_O) (r : cf_O) (h : fSB_appendS_S12_0 o0 = some r) {a0 : Nat → Nat} {H : Heap} {locs : List Loc} {ls : Array Slot} (hg : phSB os ≤ phSB o0) (hP : va_P D vwCl (wSB K h0 a0 o0) H) (hD : va_D A (wSB K h0 a0 o0)) (hS : va_S A s.heap H locs) (hl : lv_has ls 2 [(0, .ref h0), (1, .ref (K 112))]) : W p l e ({ frames := 5, cells := (gC (phSB os) (phSB r)), slots := (gS (phSB os) (phSB r)), locals := 146 }) s m AR below meth c H locs (gC (phSB os) (phSB o0)) (gS (phSB os) (phSB o0)) (MQ below (va_Qr (fun (_ : Nat → Nat) => True) (fun (u : Nat → Nat) q t => cf_At D A (wSB K h0 u r) t ∧ q = h0) A) AR s (gC (phSB os) (phSB r)) (gS (phSB os) (phSB r)) A) (F0 m 0 ls []) := by
  obtain ⟨⟨hx, hb, hr, hts, hown, hlocks, hin, hml⟩, hE, hA⟩ := id C
  have hK := hE.k
  refine lv_aload_n hx hb dSB_appendS_0 rfl (lv_at hl 0 rfl) ?_
  refine lv_aload_n hx hb dSB_appendS_1 rfl (lv_at hl 1 rfl) ?_
  obtain ⟨q_1, hq_1, h⟩ := op_b h
  have hgr_2 : phSB q_1 ≤ phSB r := nSB_appendS_S12_5 _ _ h
  have hg2_3 : phSB o0 ≤ phSB q_1 := nAS_appendS_S12 _ _ hq_1
  refine cf_callR (wc := wSB K h0 a0 o0) (wr := []) (va_runSU (hK.1 13 _ rfl).2 (As := [.ref (K 112)]) (rest := []) ⟨hx, hb, hml, hown, hts⟩ (mAS_appendS_S12 l D K _ h0 a0 o0 _ hq_1) (cf_cwSU 1 hts (cf_G1 wv_1560) rfl rfl rfl (hts _ wv_1558) (hts _ wv_2788) (hts _ wv_466) (hts _ wv_1559) (hts _ wv_166) (by decide +kernel) ⟨Nat.le_of_ble_eq_true rfl, Nat.le_of_ble_eq_true rfl⟩) (cf_preV (wc := wSB K h0 a0 o0) hE hP hD hS hA rfl 0 rfl [0, 1] rfl (by decide +kernel)) rfl rfl hl.1 rfl (lv_room (Nat.le_of_ble_eq_true rfl)) dSB_appendS_2 ⟨Nat.le_trans (gC_add hg hg2_3) (gC_le hgr_2), Nat.le_trans (gS_add hg hg2_3) (gS_le hgr_2)⟩) hP hD hS hA [0, 1] [] rfl rfl (by decide +kernel) (by decide +kernel) (fun a0_5 H locs hw_4 hP hD hS => ?_)
  have hP : va_P D vwCl (wSB K h0 a0_5 q_1) H := hP.sub [0, 1] rfl
  have hD : va_D A (wSB K h0 a0_5 q_1) := hD.sub [0, 1] (by decide +kernel) rfl
  refine W.widen (k := (gC (phSB os) (phSB q_1))) (n := (gS (phSB os) (phSB q_1))) (gC_add hg hg2_3) (gS_add hg hg2_3) ?_
  have hg : phSB os ≤ phSB q_1 := Nat.le_trans hg hg2_3
  exact bSB_appendS_S12_5 C _ _ h hg hP hD hS (lv_sub hl [0] rfl)
set_option maxRecDepth 100000 in
theorem mSB_appendS_S12 (l : Launch) (D : va_G) (K : Nat → ClassId) (sz : Nat) (h0 : Nat) (a0 : Nat → Nat) (o0 : cf_O) (r : cf_O) (h : fSB_appendS_S12 o0 = some r) : Met l ySB_appendS (Cond.code ySB_appendS cSB_appendS 2 (Option.some (Jvm.ClassFile.FieldType.object "java/lang/StringBuilder")) :: cfB) ({ frames := 5, cells := (gC (phSB o0) (phSB r)), slots := (gS (phSB o0) (phSB r)), locals := 146 }) (va_Pc [.ref h0, .ref (K 112)] (cf_Pre D K sz (wSB K h0 a0 o0))) (va_Qr (fun (_ : Nat → Nat) => True) (fun (u : Nat → Nat) q t => cf_At D (va_A (wSB K h0 a0 o0) sz) (wSB K h0 u r) t ∧ q = h0) (va_A (wSB K h0 a0 o0) sz)) (gC (phSB o0) (phSB r)) (gS (phSB o0) (phSB r)) (va_A (wSB K h0 a0 o0) sz) := by
  refine cf_ofW (y := ySB_appendS) (As := [.ref h0, .ref (K 112)]) (WS := wSB K h0 a0 o0) (maxL := 2) (fun A => (va_Qr (fun (_ : Nat → Nat) => True) (fun (u : Nat → Nat) q t => cf_At D A (wSB K h0 u r) t ∧ q = h0) A)) (by decide) (Nat.le_of_ble_eq_true rfl) ?_
  intro p e s m below meth c A ls En hsz hA hP hD hE hS hl
  have C : (dc_C p s m (([.ref h0, .ref (K 112)] : List Value).toArray) meth c cSB_appendS 2 (Option.some (Jvm.ClassFile.FieldType.object "java/lang/StringBuilder")) ySB_appendS ∧ cf_E D K A s s.heap ∧ ∀ q, s.heap.size ≤ q → A q) := ⟨En, hE, hA⟩
  refine W.widen (k := gC (phSB o0) (phSB o0)) (n := gS (phSB o0) (phSB o0)) (Nat.zero_le _) (Nat.zero_le _) ?_
  exact bSB_appendS_S12_0 C o0 r h (Nat.le_refl _) hP hD hS hl
set_option maxHeartbeats 4000000 in
set_option maxRecDepth 100000 in
theorem bJString_coder__S14_14 {p : Program} {l : Launch} {e : Env} {s : State} {m : MethodId} {below : List Frame} {meth : Method} {c : Code} {A : Nat → Prop} {D : va_G} {K : Nat → ClassId} {AR : Array Value} (C : (dc_C p s m AR meth c cJString_coder_ 1 (Option.some Jvm.ClassFile.FieldType.byte) yJString_coder_ ∧ cf_E D K A s s.heap ∧ ∀ q, s.heap.size ≤ q → A q)) (s0 : Int32) (r : Int32) (h : fJString_coder__S14_14 s0 = some r) {H : Heap} {locs : List Loc} {ls : Array Slot} (hP : va_P D vwCl ([]) H) (hD : va_D A ([])) (hS : va_S A s.heap H locs) (hl : lv_has ls 1 []) : W p l e ({ frames := 0, cells := 0, slots := 0, locals := 0 }) s m AR below meth c H locs 0 0 (MQ below (va_Qi (fun (x : Int32) (_ : Unit) => x = r) (fun (_ : Unit) t => cf_At D A ([]) t) A) AR s 0 0 A) (F0 m 14 ls [.int s0]) := by
  obtain ⟨⟨hx, hb, hr, hts, hown, hlocks, hin, hml⟩, hE, hA⟩ := id C
  have hK := hE.k
  obtain ⟨hz_1, h⟩ := op_w h
  obtain rfl := Option.some.inj h
  exact dc_zretn hx hb hr (op_nb hz_1) hlocks rfl hP hD hS dJString_coder__14
set_option maxHeartbeats 4000000 in
set_option maxRecDepth 100000 in
theorem bJString_coder__S14_0 {p : Program} {l : Launch} {e : Env} {s : State} {m : MethodId} {below : List Frame} {meth : Method} {c : Code} {A : Nat → Prop} {D : va_G} {K : Nat → ClassId} {AR : Array Value} (C : (dc_C p s m AR meth c cJString_coder_ 1 (Option.some Jvm.ClassFile.FieldType.byte) yJString_coder_ ∧ cf_E D K A s s.heap ∧ ∀ q, s.heap.size ≤ q → A q)) (r : Int32) (h : fJString_coder__S14_0 = some r) {H : Heap} {locs : List Loc} {ls : Array Slot} (hP : va_P D vwCl ([]) H) (hD : va_D A ([])) (hS : va_S A s.heap H locs) (hl : lv_has ls 1 [(0, .ref (K 114))]) : W p l e ({ frames := 0, cells := 0, slots := 0, locals := 0 }) s m AR below meth c H locs 0 0 (MQ below (va_Qi (fun (x : Int32) (_ : Unit) => x = r) (fun (_ : Unit) t => cf_At D A ([]) t) A) AR s 0 0 A) (F0 m 0 ls []) := by
  obtain ⟨⟨hx, hb, hr, hts, hown, hlocks, hin, hml⟩, hE, hA⟩ := id C
  have hK := hE.k
  refine va_gets hx hb hE.2.2.2.2.2.2.1 hS hown (hts _ wv_764) (fun _ h9 => h9) dJString_coder__0 ?_
  refine lv_if_eq (tgt := 13) hx hb dJString_coder__3 (by decide) (fun c_1 => absurd c_1 (by decide)) (fun _ => ?_)
  refine lv_aload_n hx hb dJString_coder__6 rfl (lv_at hl 0 rfl) ?_
  refine vk_getf hx hb (hE.s 14 rfl).2.2.1 hS hown (hts _ wv_1736) (fun _ h9 => h9) dJString_coder__7 ?_
  refine lv_goto (tgt := 14) hx hb dJString_coder__10 (by decide) ?_
  exact bJString_coder__S14_14 C _ _ h hP hD hS (lv_sub hl [] rfl)
set_option maxRecDepth 100000 in
theorem mJString_coder__S14 (l : Launch) (D : va_G) (K : Nat → ClassId) (sz : Nat) (r : Int32) (h : fJString_coder__S14 = some r) : Met l yJString_coder_ (Cond.code yJString_coder_ cJString_coder_ 1 (Option.some Jvm.ClassFile.FieldType.byte) :: cfB) ({ frames := 0, cells := 0, slots := 0, locals := 0 }) (va_Pc [.ref (K 114)] (cf_Pre D K sz ([]))) (va_Qi (fun (x : Int32) (_ : Unit) => x = r) (fun (_ : Unit) t => cf_At D (va_A ([]) sz) ([]) t) (va_A ([]) sz)) 0 0 (va_A ([]) sz) := by
  refine cf_ofW (y := yJString_coder_) (As := [.ref (K 114)]) (WS := []) (maxL := 1) (fun A => (va_Qi (fun (x : Int32) (_ : Unit) => x = r) (fun (_ : Unit) t => cf_At D A ([]) t) A)) (by decide) (Nat.le_of_ble_eq_true rfl) ?_
  intro p e s m below meth c A ls En hsz hA hP hD hE hS hl
  have C : (dc_C p s m (([.ref (K 114)] : List Value).toArray) meth c cJString_coder_ 1 (Option.some Jvm.ClassFile.FieldType.byte) yJString_coder_ ∧ cf_E D K A s s.heap ∧ ∀ q, s.heap.size ≤ q → A q) := ⟨En, hE, hA⟩
  exact bJString_coder__S14_0 C r h hP hD hS hl
set_option maxHeartbeats 4000000 in
set_option maxRecDepth 100000 in
theorem bJString_length__S14_0 {p : Program} {l : Launch} {e : Env} {s : State} {m : MethodId} {below : List Frame} {meth : Method} {c : Code} {A : Nat → Prop} {D : va_G} {K : Nat → ClassId} {AR : Array Value} (C : (dc_C p s m AR meth c cJString_length_ 1 (Option.some Jvm.ClassFile.FieldType.int) yJString_length_ ∧ cf_E D K A s s.heap ∧ ∀ q, s.heap.size ≤ q → A q)) (r : Int32) (h : fJString_length__S14_0 = some r) {H : Heap} {locs : List Loc} {ls : Array Slot} (hP : va_P D vwCl ([]) H) (hD : va_D A ([])) (hS : va_S A s.heap H locs) (hl : lv_has ls 1 [(0, .ref (K 114))]) : W p l e ({ frames := 1, cells := 0, slots := 0, locals := 20 }) s m AR below meth c H locs 0 0 (MQ below (va_Qi (fun (x : Int32) (_ : Unit) => x = r) (fun (_ : Unit) t => cf_At D A ([]) t) A) AR s 0 0 A) (F0 m 0 ls []) := by
  obtain ⟨⟨hx, hb, hr, hts, hown, hlocks, hin, hml⟩, hE, hA⟩ := id C
  have hK := hE.k
  refine lv_aload_n hx hb dJString_length__0 rfl (lv_at hl 0 rfl) ?_
  refine vk_getf hx hb (hE.s 14 rfl).2.2.2.1 hS hown (hts _ wv_1735) (fun _ h9 => h9) dJString_length__1 ?_
  refine va_tlen (v := 4) hx hb (hE.s 14 rfl).2.2.2.2 hS rfl dJString_length__4 ?_
  refine lv_aload_n hx hb dJString_length__5 rfl (lv_at hl 0 rfl) ?_
  obtain ⟨q_1, hq_1, h⟩ := op_b h
  refine cf_calli (wc := []) (wr := []) (va_runV (As := []) (rest := [.int 4]) ⟨hx, hb, hml, hown, hts⟩ (mJString_coder__S14 l D K _ _ hq_1) (cwV 0 hts (cf_GV wv_760 wv_761 wv_762 wv_168 wv_763) rfl rfl rfl (by decide +kernel) ⟨Nat.le_of_ble_eq_true rfl, Nat.le_of_ble_eq_true rfl⟩) (cf_preO (wc := []) (hE.s 14 rfl).2.1 hE hP hD hS hA [] rfl (by decide +kernel)) rfl rfl hl.1 rfl (lv_room (Nat.le_of_ble_eq_true rfl)) dJString_length__6 ⟨Nat.le_of_ble_eq_true rfl, Nat.le_of_ble_eq_true rfl⟩) hP hD hS hA [] [] rfl rfl (by decide +kernel) (by decide +kernel) (fun r_2 _ H locs hw_3 hP hD hS => ?_)
  subst r_2
  have hP : va_P D vwCl ([]) H := hP.sub [] rfl
  have hD : va_D A ([]) := hD.sub [] (by decide +kernel) rfl
  refine lv_ishr hx hb dJString_length__9 ?_
  refine lv_topi (fun x_4 ex_4 => ?_)
  have h := op_ks ex_4 h
  obtain rfl := Option.some.inj h
  exact dc_iret hx hb hr hlocks rfl hP hD hS dJString_length__10
set_option maxRecDepth 100000 in
theorem mJString_length__S14 (l : Launch) (D : va_G) (K : Nat → ClassId) (sz : Nat) (r : Int32) (h : fJString_length__S14 = some r) : Met l yJString_length_ (Cond.code yJString_length_ cJString_length_ 1 (Option.some Jvm.ClassFile.FieldType.int) :: cfB) ({ frames := 1, cells := 0, slots := 0, locals := 20 }) (va_Pc [.ref (K 114)] (cf_Pre D K sz ([]))) (va_Qi (fun (x : Int32) (_ : Unit) => x = r) (fun (_ : Unit) t => cf_At D (va_A ([]) sz) ([]) t) (va_A ([]) sz)) 0 0 (va_A ([]) sz) := by
  refine cf_ofW (y := yJString_length_) (As := [.ref (K 114)]) (WS := []) (maxL := 1) (fun A => (va_Qi (fun (x : Int32) (_ : Unit) => x = r) (fun (_ : Unit) t => cf_At D A ([]) t) A)) (by decide) (Nat.le_of_ble_eq_true rfl) ?_
  intro p e s m below meth c A ls En hsz hA hP hD hE hS hl
  have C : (dc_C p s m (([.ref (K 114)] : List Value).toArray) meth c cJString_length_ 1 (Option.some Jvm.ClassFile.FieldType.int) yJString_length_ ∧ cf_E D K A s s.heap ∧ ∀ q, s.heap.size ≤ q → A q) := ⟨En, hE, hA⟩
  exact bJString_length__S14_0 C r h hP hD hS hl
set_option maxHeartbeats 4000000 in
set_option maxRecDepth 100000 in
theorem bAS_inflateIfNeededFor_S14_21 {p : Program} {l : Launch} {e : Env} {s : State} {m : MethodId} {below : List Frame} {meth : Method} {c : Code} {A : Nat → Prop} {D : va_G} {K : Nat → ClassId} {h0 : Nat} {a0 : Nat → Nat} {AR : Array Value} (C : (dc_C p s m AR meth c cAS_inflateIfNeededFor 2 (Option.none : Option Jvm.ClassFile.FieldType) yAS_inflateIfNeededFor ∧ cf_E D K A s s.heap ∧ ∀ q, s.heap.size ≤ q → A q)) (o0 : cf_O) (r : Unit) (h : fAS_inflateIfNeededFor_S14_21 o0 = some r) {H : Heap} {locs : List Loc} {ls : Array Slot} (hP : va_P D vwCl (wSB K h0 a0 o0) H) (hD : va_D A (wSB K h0 a0 o0)) (hS : va_S A s.heap H locs) (hl : lv_has ls 2 []) : W p l e ({ frames := 1, cells := 0, slots := 0, locals := 20 }) s m AR below meth c H locs 0 0 (MQ below (va_Qv (fun (_ : Unit) => True) (fun (_ : Unit) t => cf_At D A (wSB K h0 a0 o0) t) A) AR s 0 0 A) (F0 m 21 ls []) := by
  obtain ⟨⟨hx, hb, hr, hts, hown, hlocks, hin, hml⟩, hE, hA⟩ := id C
  have hK := hE.k
  obtain rfl := Option.some.inj h
  exact dc_vret hx hb hr hlocks rfl hP hD hS dAS_inflateIfNeededFor_21
set_option maxHeartbeats 4000000 in
set_option maxRecDepth 100000 in
theorem bAS_inflateIfNeededFor_S14_0 {p : Program} {l : Launch} {e : Env} {s : State} {m : MethodId} {below : List Frame} {meth : Method} {c : Code} {A : Nat → Prop} {D : va_G} {K : Nat → ClassId} {h0 : Nat} {a0 : Nat → Nat} {AR : Array Value} (C : (dc_C p s m AR meth c cAS_inflateIfNeededFor 2 (Option.none : Option Jvm.ClassFile.FieldType) yAS_inflateIfNeededFor ∧ cf_E D K A s s.heap ∧ ∀ q, s.heap.size ≤ q → A q)) (o0 : cf_O) (r : Unit) (h : fAS_inflateIfNeededFor_S14_0 o0 = some r) {H : Heap} {locs : List Loc} {ls : Array Slot} (hP : va_P D vwCl (wSB K h0 a0 o0) H) (hD : va_D A (wSB K h0 a0 o0)) (hS : va_S A s.heap H locs) (hl : lv_has ls 2 [(0, .ref h0), (1, .ref (K 114))]) : W p l e ({ frames := 1, cells := 0, slots := 0, locals := 20 }) s m AR below meth c H locs 0 0 (MQ below (va_Qv (fun (_ : Unit) => True) (fun (_ : Unit) t => cf_At D A (wSB K h0 a0 o0) t) A) AR s 0 0 A) (F0 m 0 ls []) := by
  obtain ⟨⟨hx, hb, hr, hts, hown, hlocks, hin, hml⟩, hE, hA⟩ := id C
  have hK := hE.k
  refine va_gets hx hb hE.2.2.2.2.2.2.1 hS hown (hts _ wv_444) (fun _ h9 => h9) dAS_inflateIfNeededFor_0 ?_
  refine lv_if_eq (tgt := 21) hx hb dAS_inflateIfNeededFor_3 (by decide) (fun c_1 => absurd c_1 (by decide)) (fun _ => ?_)
  refine lv_aload_n hx hb dAS_inflateIfNeededFor_6 rfl (lv_at hl 0 rfl) ?_
  refine va_get (D := D) (ci := 13) (v := .int (o0.1 1)) (C := RSB) (T := TSB) (N := 4) hx hb hts inSB hown hK hP 0 rfl rfl 1 (by decide) (hts _ wv_454) (fun _ h9 => h9) rfl dAS_inflateIfNeededFor_7 ?_
  refine lv_aload_n hx hb dAS_inflateIfNeededFor_10 rfl (lv_at hl 1 rfl) ?_
  obtain ⟨q_2, hq_2, h⟩ := op_b h
  refine cf_calli (wc := []) (wr := wSB K h0 a0 o0) (va_runV (As := []) (rest := [.int (o0.1 1)]) ⟨hx, hb, hml, hown, hts⟩ (mJString_coder__S14 l D K _ _ hq_2) (cwV 0 hts (cf_GV wv_1619 wv_761 wv_762 wv_168 wv_763) rfl rfl rfl (by decide +kernel) ⟨Nat.le_of_ble_eq_true rfl, Nat.le_of_ble_eq_true rfl⟩) (cf_preO (wc := []) (hE.s 14 rfl).2.1 hE hP hD hS hA [] rfl (by decide +kernel)) rfl rfl hl.1 rfl (lv_room (Nat.le_of_ble_eq_true rfl)) dAS_inflateIfNeededFor_11 ⟨Nat.le_of_ble_eq_true rfl, Nat.le_of_ble_eq_true rfl⟩) hP hD hS hA [] [0, 1] rfl rfl (by decide +kernel) (by decide +kernel) (fun r_3 _ H locs hw_4 hP hD hS => ?_)
  subst r_3
  have hP : va_P D vwCl (wSB K h0 a0 o0) H := hP.sub [0, 1] rfl
  have hD : va_D A (wSB K h0 a0 o0) := hD.sub [0, 1] (by decide +kernel) rfl
  refine lv_icmp_eq (tgt := 21) hx hb dAS_inflateIfNeededFor_14 (by decide) (fun c_5 => ?_) (fun c_5 => ?_)
  · have h := op_t c_5 h
    exact bAS_inflateIfNeededFor_S14_21 C _ _ h hP hD hS (lv_sub hl [] rfl)
  · have h := op_f c_5 h
    refine lv_aload_n hx hb dAS_inflateIfNeededFor_17 rfl (lv_at hl 0 rfl) ?_
    cases h
set_option maxRecDepth 100000 in
theorem mAS_inflateIfNeededFor_S14 (l : Launch) (D : va_G) (K : Nat → ClassId) (sz : Nat) (h0 : Nat) (a0 : Nat → Nat) (o0 : cf_O) (r : Unit) (h : fAS_inflateIfNeededFor_S14 o0 = some r) : Met l yAS_inflateIfNeededFor (Cond.code yAS_inflateIfNeededFor cAS_inflateIfNeededFor 2 (Option.none : Option Jvm.ClassFile.FieldType) :: cfB) ({ frames := 1, cells := 0, slots := 0, locals := 20 }) (va_Pc [.ref h0, .ref (K 114)] (cf_Pre D K sz (wSB K h0 a0 o0))) (va_Qv (fun (_ : Unit) => True) (fun (_ : Unit) t => cf_At D (va_A (wSB K h0 a0 o0) sz) (wSB K h0 a0 o0) t) (va_A (wSB K h0 a0 o0) sz)) 0 0 (va_A (wSB K h0 a0 o0) sz) := by
  refine cf_ofW (y := yAS_inflateIfNeededFor) (As := [.ref h0, .ref (K 114)]) (WS := wSB K h0 a0 o0) (maxL := 2) (fun A => (va_Qv (fun (_ : Unit) => True) (fun (_ : Unit) t => cf_At D A (wSB K h0 a0 o0) t) A)) (by decide) (Nat.le_of_ble_eq_true rfl) ?_
  intro p e s m below meth c A ls En hsz hA hP hD hE hS hl
  have C : (dc_C p s m (([.ref h0, .ref (K 114)] : List Value).toArray) meth c cAS_inflateIfNeededFor 2 (Option.none : Option Jvm.ClassFile.FieldType) yAS_inflateIfNeededFor ∧ cf_E D K A s s.heap ∧ ∀ q, s.heap.size ≤ q → A q) := ⟨En, hE, hA⟩
  exact bAS_inflateIfNeededFor_S14_0 C o0 r h hP hD hS hl
set_option maxRecDepth 100000 in
theorem nJString_getBytes_ABIB_S14_SB0_0 (v2 : Int32) (v3 : Int32) (o0 : cf_O) (r : cf_O) (h : fJString_getBytes_ABIB_S14_SB0_0 v2 v3 o0 = some r) : phSB o0 ≤ phSB r := by
  have hm : phSB o0 ≤ phSB o0 := Nat.le_refl _
  obtain ⟨q_1, hq_1, h⟩ := op_b h
  rcases (Classical.em (q_1 = v3)).symm with c_4 | c_4
  · have h := op_f c_4 h
    cases h
  · have h := op_t c_4 h
    obtain ⟨x_5, ex_5, h⟩ := op_kx h
    obtain ⟨hi_6, h⟩ := op_n h
    obtain ⟨o_7, eo_7, h⟩ := op_kx h
    have hm : phSB o0 ≤ phSB o_7 := by rw [eo_7]; exact hm
    obtain rfl := Option.some.inj h
    exact hm
theorem nJString_getBytes_ABIB_S14_SB0 (v2 : Int32) (v3 : Int32) (o0 : cf_O) (r : cf_O) (h : fJString_getBytes_ABIB_S14_SB0 v2 v3 o0 = some r) : phSB o0 ≤ phSB r := nJString_getBytes_ABIB_S14_SB0_0  v2 v3 o0 r h
set_option maxHeartbeats 4000000 in
set_option maxRecDepth 100000 in
theorem bJString_getBytes_ABIB_S14_SB0_0 {p : Program} {l : Launch} {e : Env} {s : State} {m : MethodId} {below : List Frame} {meth : Method} {c : Code} {A : Nat → Prop} {D : va_G} {K : Nat → ClassId} {h0 : Nat} {a0 : Nat → Nat} {AR : Array Value} (C : (dc_C p s m AR meth c cJString_getBytes_ABIB 4 (Option.none : Option Jvm.ClassFile.FieldType) yJString_getBytes_ABIB ∧ cf_E D K A s s.heap ∧ ∀ q, s.heap.size ≤ q → A q)) (v2 : Int32) (v3 : Int32) (o0 : cf_O) (r : cf_O) (h : fJString_getBytes_ABIB_S14_SB0_0 v2 v3 o0 = some r) {H : Heap} {locs : List Loc} {ls : Array Slot} (hP : va_P D vwCl (wSB K h0 a0 o0) H) (hD : va_D A (wSB K h0 a0 o0)) (hS : va_S A s.heap H locs) (hl : lv_has ls 4 [(0, .ref (K 114)), (1, .ref (a0 0)), (2, .int v2), (3, .int v3)]) : W p l e ({ frames := 1, cells := 0, slots := 0, locals := 60 }) s m AR below meth c H locs 0 0 (MQ below (va_Qv (fun (_ : Unit) => True) (fun (_ : Unit) t => cf_At D A (wSB K h0 a0 r) t) A) AR s 0 0 A) (F0 m 0 ls []) := by
  obtain ⟨⟨hx, hb, hr, hts, hown, hlocks, hin, hml⟩, hE, hA⟩ := id C
  have hK := hE.k
  refine lv_aload_n hx hb dJString_getBytes_ABIB_0 rfl (lv_at hl 0 rfl) ?_
  obtain ⟨q_1, hq_1, h⟩ := op_b h
  refine cf_calli (wc := []) (wr := wSB K h0 a0 o0) (va_runV (As := []) (rest := []) ⟨hx, hb, hml, hown, hts⟩ (mJString_coder__S14 l D K _ _ hq_1) (cwV 0 hts (cf_GV wv_760 wv_761 wv_762 wv_168 wv_763) rfl rfl rfl (by decide +kernel) ⟨Nat.le_of_ble_eq_true rfl, Nat.le_of_ble_eq_true rfl⟩) (cf_preO (wc := []) (hE.s 14 rfl).2.1 hE hP hD hS hA [] rfl (by decide +kernel)) rfl rfl hl.1 rfl (lv_room (Nat.le_of_ble_eq_true rfl)) dJString_getBytes_ABIB_1 ⟨Nat.le_of_ble_eq_true rfl, Nat.le_of_ble_eq_true rfl⟩) hP hD hS hA [] [0, 1] rfl rfl (by decide +kernel) (by decide +kernel) (fun r_2 _ H locs hw_3 hP hD hS => ?_)
  subst r_2
  have hP : va_P D vwCl (wSB K h0 a0 o0) H := hP.sub [0, 1] rfl
  have hD : va_D A (wSB K h0 a0 o0) := hD.sub [0, 1] (by decide +kernel) rfl
  refine lv_iload_n hx hb dJString_getBytes_ABIB_4 rfl (lv_at hl 3 rfl) ?_
  refine lv_icmp_ne (tgt := 28) hx hb dJString_getBytes_ABIB_5 (by decide) (fun c_4 => ?_) (fun c_4 => ?_)
  · have h := op_f c_4 h
    refine lv_aload_n hx hb dJString_getBytes_ABIB_28 rfl (lv_at hl 0 rfl) ?_
    refine vk_getf hx hb (hE.s 14 rfl).2.2.2.1 hS hown (hts _ wv_1735) (fun _ h9 => h9) dJString_getBytes_ABIB_29 ?_
    refine lv_iconst (v := 0) hx hb dJString_getBytes_ABIB_32 (by decide) ?_
    refine lv_aload_n hx hb dJString_getBytes_ABIB_33 rfl (lv_at hl 1 rfl) ?_
    refine lv_iload_n hx hb dJString_getBytes_ABIB_34 rfl (lv_at hl 2 rfl) ?_
    refine lv_aload_n hx hb dJString_getBytes_ABIB_35 rfl (lv_at hl 0 rfl) ?_
    refine vk_getf hx hb (hE.s 14 rfl).2.2.2.1 hS hown (hts _ wv_1735) (fun _ h9 => h9) dJString_getBytes_ABIB_36 ?_
    refine va_tlen (v := 4) hx hb (hE.s 14 rfl).2.2.2.2 hS rfl dJString_getBytes_ABIB_39 ?_
    cases h
  · have h := op_t c_4 h
    refine lv_aload_n hx hb dJString_getBytes_ABIB_8 rfl (lv_at hl 0 rfl) ?_
    refine vk_getf hx hb (hE.s 14 rfl).2.2.2.1 hS hown (hts _ wv_1735) (fun _ h9 => h9) dJString_getBytes_ABIB_9 ?_
    refine lv_iconst (v := 0) hx hb dJString_getBytes_ABIB_12 (by decide) ?_
    refine lv_aload_n hx hb dJString_getBytes_ABIB_13 rfl (lv_at hl 1 rfl) ?_
    refine lv_iload_n hx hb dJString_getBytes_ABIB_14 rfl (lv_at hl 2 rfl) ?_
    refine lv_iload_n hx hb dJString_getBytes_ABIB_15 rfl (lv_at hl 3 rfl) ?_
    refine lv_ishl hx hb dJString_getBytes_ABIB_16 ?_
    refine lv_topi (fun x_5 ex_5 => ?_)
    have h := op_ks ex_5 h
    refine lv_aload_n hx hb dJString_getBytes_ABIB_17 rfl (lv_at hl 0 rfl) ?_
    refine vk_getf hx hb (hE.s 14 rfl).2.2.2.1 hS hown (hts _ wv_1735) (fun _ h9 => h9) dJString_getBytes_ABIB_18 ?_
    refine va_tlen (v := 4) hx hb (hE.s 14 rfl).2.2.2.2 hS rfl dJString_getBytes_ABIB_21 ?_
    obtain ⟨hi_6, h⟩ := op_n h
    refine vk_copyt (D := D) (f := cf_sb 14) hx hb (hml.trans hl.1.symm) hown (hts _ wv_1643) (hts _ wv_1295) (hts _ wv_1294) (hts _ wv_187) hK hP hD hS (hE.s 14 rfl).2.2.2.2 1 2 rfl rfl (by decide) (fun z => hi_6 (Or.inl z)) (by decide) (by decide) (Nat.not_lt.mp (fun z => hi_6 (Or.inr z))) (by decide) (Nat.le_of_ble_eq_true rfl) (Nat.le_of_ble_eq_true rfl) dJString_getBytes_ABIB_22 (fun H locs hP hD hS => ?_)
    have hP : va_P D vwCl (wSB K h0 a0 (cb o0 0 14 x_5 4)) H := hP
    have hD : va_D A (wSB K h0 a0 (cb o0 0 14 x_5 4)) := hD
    obtain ⟨o_7, eo_7, h⟩ := op_kx h
    rw [← eo_7] at hP hD
    refine lv_goto (tgt := 43) hx hb dJString_getBytes_ABIB_25 (by decide) ?_
    obtain rfl := Option.some.inj h
    exact dc_vret hx hb hr hlocks rfl hP hD hS dJString_getBytes_ABIB_43
set_option maxRecDepth 100000 in
theorem mJString_getBytes_ABIB_S14_SB0 (l : Launch) (D : va_G) (K : Nat → ClassId) (sz : Nat) (v2 : Int32) (v3 : Int32) (h0 : Nat) (a0 : Nat → Nat) (o0 : cf_O) (r : cf_O) (h : fJString_getBytes_ABIB_S14_SB0 v2 v3 o0 = some r) : Met l yJString_getBytes_ABIB (Cond.code yJString_getBytes_ABIB cJString_getBytes_ABIB 4 (Option.none : Option Jvm.ClassFile.FieldType) :: cfB) ({ frames := 1, cells := 0, slots := 0, locals := 60 }) (va_Pc [.ref (K 114), .ref (a0 0), .int v2, .int v3] (cf_Pre D K sz (wSB K h0 a0 o0))) (va_Qv (fun (_ : Unit) => True) (fun (_ : Unit) t => cf_At D (va_A (wSB K h0 a0 o0) sz) (wSB K h0 a0 r) t) (va_A (wSB K h0 a0 o0) sz)) 0 0 (va_A (wSB K h0 a0 o0) sz) := by
  refine cf_ofW (y := yJString_getBytes_ABIB) (As := [.ref (K 114), .ref (a0 0), .int v2, .int v3]) (WS := wSB K h0 a0 o0) (maxL := 4) (fun A => (va_Qv (fun (_ : Unit) => True) (fun (_ : Unit) t => cf_At D A (wSB K h0 a0 r) t) A)) (by decide) (Nat.le_of_ble_eq_true rfl) ?_
  intro p e s m below meth c A ls En hsz hA hP hD hE hS hl
  have C : (dc_C p s m (([.ref (K 114), .ref (a0 0), .int v2, .int v3] : List Value).toArray) meth c cJString_getBytes_ABIB 4 (Option.none : Option Jvm.ClassFile.FieldType) yJString_getBytes_ABIB ∧ cf_E D K A s s.heap ∧ ∀ q, s.heap.size ≤ q → A q) := ⟨En, hE, hA⟩
  exact bJString_getBytes_ABIB_S14_SB0_0 C v2 v3 o0 r h hP hD hS hl
set_option maxRecDepth 100000 in
theorem nAS_putStringAt_S14_0 (v1 : Int32) (o0 : cf_O) (r : cf_O) (h : fAS_putStringAt_S14_0 v1 o0 = some r) : phSB o0 ≤ phSB r := by
  have hm : phSB o0 ≤ phSB o0 := Nat.le_refl _
  obtain ⟨q_1, hq_1, h⟩ := op_b h
  obtain ⟨q_3, hq_3, h⟩ := op_b h
  have hm : phSB o0 ≤ phSB q_3 := Nat.le_trans hm (nJString_getBytes_ABIB_S14_SB0 _ _ _ _ hq_3)
  obtain rfl := Option.some.inj h
  exact hm
theorem nAS_putStringAt_S14 (v1 : Int32) (o0 : cf_O) (r : cf_O) (h : fAS_putStringAt_S14 v1 o0 = some r) : phSB o0 ≤ phSB r := nAS_putStringAt_S14_0  v1 o0 r h
set_option maxHeartbeats 4000000 in
set_option maxRecDepth 100000 in
theorem bAS_putStringAt_S14_0 {p : Program} {l : Launch} {e : Env} {s : State} {m : MethodId} {below : List Frame} {meth : Method} {c : Code} {A : Nat → Prop} {D : va_G} {K : Nat → ClassId} {h0 : Nat} {a0 : Nat → Nat} {AR : Array Value} (C : (dc_C p s m AR meth c cAS_putStringAt 3 (Option.none : Option Jvm.ClassFile.FieldType) yAS_putStringAt ∧ cf_E D K A s s.heap ∧ ∀ q, s.heap.size ≤ q → A q)) (v1 : Int32) (o0 : cf_O) (r : cf_O) (h : fAS_putStringAt_S14_0 v1 o0 = some r) {H : Heap} {locs : List Loc} {ls : Array Slot} (hP : va_P D vwCl (wSB K h0 a0 o0) H) (hD : va_D A (wSB K h0 a0 o0)) (hS : va_S A s.heap H locs) (hl : lv_has ls 3 [(0, .ref h0), (1, .int v1), (2, .ref (K 114))]) : W p l e ({ frames := 2, cells := 0, slots := 0, locals := 83 }) s m AR below meth c H locs 0 0 (MQ below (va_Qv (fun (_ : Unit) => True) (fun (_ : Unit) t => cf_At D A (wSB K h0 a0 r) t) A) AR s 0 0 A) (F0 m 0 ls []) := by
  obtain ⟨⟨hx, hb, hr, hts, hown, hlocks, hin, hml⟩, hE, hA⟩ := id C
  have hK := hE.k
  refine lv_aload_n hx hb dAS_putStringAt_0 rfl (lv_at hl 0 rfl) ?_
  refine lv_aload_n hx hb dAS_putStringAt_1 rfl (lv_at hl 2 rfl) ?_
  obtain ⟨q_1, hq_1, h⟩ := op_b h
  refine dc_callv (va_runU (As := [.ref (K 114)]) (rest := []) ⟨hx, hb, hml, hown, hts⟩ (mAS_inflateIfNeededFor_S14 l D K _ h0 a0 o0 _ hq_1) (cf_cwU (C := "java/lang/StringBuilder") 1 hts (cf_G1 wv_1618) rfl rfl rfl (hts _ wv_166) (hts _ wv_1615) (hts _ wv_2793) (va_Nw.use rfl (hE.n 32 rfl)) (hts _ wv_1617) (by decide +kernel) ⟨Nat.le_of_ble_eq_true rfl, Nat.le_of_ble_eq_true rfl⟩) (dc_preV hE hP hD hS hA rfl 0 rfl) rfl rfl hl.1 rfl (lv_room (Nat.le_of_ble_eq_true rfl)) dAS_putStringAt_2 ⟨Nat.le_of_ble_eq_true rfl, Nat.le_of_ble_eq_true rfl⟩) hP hD hS hA (fun H locs hP hD hS => ?_)
  refine lv_aload_n hx hb dAS_putStringAt_5 rfl (lv_at hl 2 rfl) ?_
  refine lv_aload_n hx hb dAS_putStringAt_6 rfl (lv_at hl 0 rfl) ?_
  refine va_get (D := D) (ci := 13) (v := .ref (a0 0)) (C := RSB) (T := TSB) (N := 4) hx hb hts inSB hown hK hP 0 rfl rfl 0 (by decide) (hts _ wv_453) (fun _ h9 => h9) rfl dAS_putStringAt_7 ?_
  refine lv_iload_n hx hb dAS_putStringAt_10 rfl (lv_at hl 1 rfl) ?_
  refine lv_aload_n hx hb dAS_putStringAt_11 rfl (lv_at hl 0 rfl) ?_
  refine va_get (D := D) (ci := 13) (v := .int (o0.1 1)) (C := RSB) (T := TSB) (N := 4) hx hb hts inSB hown hK hP 0 rfl rfl 1 (by decide) (hts _ wv_454) (fun _ h9 => h9) rfl dAS_putStringAt_12 ?_
  obtain ⟨q_3, hq_3, h⟩ := op_b h
  refine cf_callv (wc := wSB K h0 a0 o0) (wr := []) (va_runV (As := [.ref (a0 0), .int v1, .int (o0.1 1)]) (rest := []) ⟨hx, hb, hml, hown, hts⟩ (mJString_getBytes_ABIB_S14_SB0 l D K _ v1 (o0.1 1) h0 a0 o0 _ hq_3) (cwV 3 hts (cf_GV wv_1639 wv_1640 wv_1641 wv_168 wv_1642) rfl rfl rfl (by decide +kernel) ⟨Nat.le_of_ble_eq_true rfl, Nat.le_of_ble_eq_true rfl⟩) (cf_preO (wc := wSB K h0 a0 o0) (hE.s 14 rfl).2.1 hE hP hD hS hA [0, 1] rfl (by decide +kernel)) rfl rfl hl.1 rfl (lv_room (Nat.le_of_ble_eq_true rfl)) dAS_putStringAt_15 ⟨Nat.le_of_ble_eq_true rfl, Nat.le_of_ble_eq_true rfl⟩) hP hD hS hA [0, 1] [] rfl rfl (by decide +kernel) (by decide +kernel) (fun _ H locs hw_4 hP hD hS => ?_)
  have hP : va_P D vwCl (wSB K h0 a0 q_3) H := hP.sub [0, 1] rfl
  have hD : va_D A (wSB K h0 a0 q_3) := hD.sub [0, 1] (by decide +kernel) rfl
  obtain rfl := Option.some.inj h
  exact dc_vret hx hb hr hlocks rfl hP hD hS dAS_putStringAt_18
set_option maxRecDepth 100000 in
theorem mAS_putStringAt_S14 (l : Launch) (D : va_G) (K : Nat → ClassId) (sz : Nat) (v1 : Int32) (h0 : Nat) (a0 : Nat → Nat) (o0 : cf_O) (r : cf_O) (h : fAS_putStringAt_S14 v1 o0 = some r) : Met l yAS_putStringAt (Cond.code yAS_putStringAt cAS_putStringAt 3 (Option.none : Option Jvm.ClassFile.FieldType) :: cfB) ({ frames := 2, cells := 0, slots := 0, locals := 83 }) (va_Pc [.ref h0, .int v1, .ref (K 114)] (cf_Pre D K sz (wSB K h0 a0 o0))) (va_Qv (fun (_ : Unit) => True) (fun (_ : Unit) t => cf_At D (va_A (wSB K h0 a0 o0) sz) (wSB K h0 a0 r) t) (va_A (wSB K h0 a0 o0) sz)) 0 0 (va_A (wSB K h0 a0 o0) sz) := by
  refine cf_ofW (y := yAS_putStringAt) (As := [.ref h0, .int v1, .ref (K 114)]) (WS := wSB K h0 a0 o0) (maxL := 3) (fun A => (va_Qv (fun (_ : Unit) => True) (fun (_ : Unit) t => cf_At D A (wSB K h0 a0 r) t) A)) (by decide) (Nat.le_of_ble_eq_true rfl) ?_
  intro p e s m below meth c A ls En hsz hA hP hD hE hS hl
  have C : (dc_C p s m (([.ref h0, .int v1, .ref (K 114)] : List Value).toArray) meth c cAS_putStringAt 3 (Option.none : Option Jvm.ClassFile.FieldType) yAS_putStringAt ∧ cf_E D K A s s.heap ∧ ∀ q, s.heap.size ≤ q → A q) := ⟨En, hE, hA⟩
  exact bAS_putStringAt_S14_0 C v1 o0 r h hP hD hS hl
set_option maxRecDepth 100000 in
theorem nAS_appendS_S14_33 (v2 : Int32) (o0 : cf_O) (r : cf_O) (h : fAS_appendS_S14_33 v2 o0 = some r) : phSB o0 ≤ phSB r := by
  have hm : phSB o0 ≤ phSB o0 := Nat.le_refl _
  obtain ⟨x_1, ex_1, h⟩ := op_kx h
  obtain ⟨o_2, eo_2, h⟩ := op_kx h
  have hm : phSB o0 ≤ phSB o_2 := by rw [eo_2]; exact hm
  obtain rfl := Option.some.inj h
  exact hm
set_option maxRecDepth 100000 in
theorem nAS_appendS_S14_24 (v2 : Int32) (o0 : cf_O) (r : cf_O) (h : fAS_appendS_S14_24 v2 o0 = some r) : phSB o0 ≤ phSB r := by
  have hm : phSB o0 ≤ phSB o0 := Nat.le_refl _
  obtain ⟨q_1, hq_1, h⟩ := op_b h
  have hm : phSB o0 ≤ phSB q_1 := Nat.le_trans hm (nAS_putStringAt_S14 _ _ _ hq_1)
  exact Nat.le_trans hm (nAS_appendS_S14_33 _ _ _ h)
set_option maxRecDepth 100000 in
theorem nAS_appendS_S14_13 (s0 : Int32) (o0 : cf_O) (r : cf_O) (h : fAS_appendS_S14_13 s0 o0 = some r) : phSB o0 ≤ phSB r := by
  have hm : phSB o0 ≤ phSB o0 := Nat.le_refl _
  obtain ⟨x_1, ex_1, h⟩ := op_kx h
  obtain ⟨q_2, hq_2, h⟩ := op_b h
  have hm : phSB o0 ≤ phSB q_2 := Nat.le_trans hm (nAS_ensureCapacityInternal _ _ _ hq_2)
  exact Nat.le_trans hm (nAS_appendS_S14_24 _ _ _ h)
set_option maxRecDepth 100000 in
theorem nAS_appendS_S14_0 (o0 : cf_O) (r : cf_O) (h : fAS_appendS_S14_0 o0 = some r) : phSB o0 ≤ phSB r := by
  have hm : phSB o0 ≤ phSB o0 := Nat.le_refl _
  obtain ⟨q_1, hq_1, h⟩ := op_b h
  exact Nat.le_trans hm (nAS_appendS_S14_13 _ _ _ h)
theorem nAS_appendS_S14 (o0 : cf_O) (r : cf_O) (h : fAS_appendS_S14 o0 = some r) : phSB o0 ≤ phSB r := nAS_appendS_S14_0  o0 r h
set_option maxHeartbeats 4000000 in
set_option maxRecDepth 100000 in
theorem bAS_appendS_S14_33 {p : Program} {l : Launch} {e : Env} {s : State} {m : MethodId} {below : List Frame} {meth : Method} {c : Code} {A : Nat → Prop} {D : va_G} {K : Nat → ClassId} {h0 : Nat} {os : cf_O} {AR : Array Value} (C : (dc_C p s m AR meth c cAS_appendS 3 (Option.some (Jvm.ClassFile.FieldType.object "java/lang/AbstractStringBuilder")) yAS_appendS ∧ cf_E D K A s s.heap ∧ ∀ q, s.heap.size ≤ q → A q)) (v2 : Int32) (o0 : cf_O) (r : cf_O) (h : fAS_appendS_S14_33 v2 o0 = some r) {a0 : Nat → Nat} {H : Heap} {locs : List Loc} {ls : Array Slot} (hg : phSB os ≤ phSB o0) (hP : va_P D vwCl (wSB K h0 a0 o0) H) (hD : va_D A (wSB K h0 a0 o0)) (hS : va_S A s.heap H locs) (hl : lv_has ls 3 [(0, .ref h0), (2, .int v2)]) : W p l e ({ frames := 4, cells := (gC (phSB os) (phSB r)), slots := (gS (phSB os) (phSB r)), locals := 124 }) s m AR below meth c H locs (gC (phSB os) (phSB o0)) (gS (phSB os) (phSB o0)) (MQ below (va_Qr (fun (_ : Nat → Nat) => True) (fun (u : Nat → Nat) q t => cf_At D A (wSB K h0 u r) t ∧ q = h0) A) AR s (gC (phSB os) (phSB r)) (gS (phSB os) (phSB r)) A) (F0 m 33 ls []) := by
  obtain ⟨⟨hx, hb, hr, hts, hown, hlocks, hin, hml⟩, hE, hA⟩ := id C
  have hK := hE.k
  refine lv_aload_n hx hb dAS_appendS_33 rfl (lv_at hl 0 rfl) ?_
  refine lv_dup hx hb dAS_appendS_34 rfl ?_
  refine va_get (D := D) (ci := 13) (v := .int (o0.1 3)) (C := RSB) (T := TSB) (N := 4) hx hb hts inSB hown hK hP 0 rfl rfl 3 (by decide) (hts _ wv_457) (fun _ h9 => h9) rfl dAS_appendS_35 ?_
  refine lv_iload_n hx hb dAS_appendS_38 rfl (lv_at hl 1 rfl) ?_
  refine lv_iadd hx hb dAS_appendS_39 ?_
  refine lv_topi (fun x_1 ex_1 => ?_)
  have h := op_ks ex_1 h
  refine va_put (D := D) (ci := 13) (v := .int x_1) (ty := .int) (C := RSB) (T := TSB) (N := 4) hx hb hts inSB tySB tyokSB nmSB hown hK hP hD hS 0 rfl rfl 3 (by decide) (hts _ wv_457) (fun _ h9 => h9) rfl (by decide +kernel) rfl rfl (Nat.le_of_ble_eq_true rfl) dAS_appendS_40 (fun H locs hP hD hS => ?_)
  have hP : va_P D vwCl (wSB K h0 a0 (fp o0 3 x_1)) H := hP
  have hD : va_D A (wSB K h0 a0 (fp o0 3 x_1)) := hD
  obtain ⟨o_2, eo_2, h⟩ := op_kx h
  rw [← eo_2] at hP hD
  have hf_3 : phSB o_2 = phSB o0 := by rw [eo_2]; rfl
  refine W.widen (k := (gC (phSB os) (phSB o_2))) (n := (gS (phSB os) (phSB o_2))) (by rw [hf_3]; exact Nat.le_refl _) (by rw [hf_3]; exact Nat.le_refl _) ?_
  have hg : phSB os ≤ phSB o_2 := by rw [hf_3]; exact hg
  refine lv_aload_n hx hb dAS_appendS_43 rfl (lv_at hl 0 rfl) ?_
  obtain rfl := Option.some.inj h
  exact dc_aretG a0 hx hb hr ⟨_, rfl⟩ hlocks hP hD hS dAS_appendS_44
set_option maxHeartbeats 4000000 in
set_option maxRecDepth 100000 in
theorem bAS_appendS_S14_24 {p : Program} {l : Launch} {e : Env} {s : State} {m : MethodId} {below : List Frame} {meth : Method} {c : Code} {A : Nat → Prop} {D : va_G} {K : Nat → ClassId} {h0 : Nat} {os : cf_O} {AR : Array Value} (C : (dc_C p s m AR meth c cAS_appendS 3 (Option.some (Jvm.ClassFile.FieldType.object "java/lang/AbstractStringBuilder")) yAS_appendS ∧ cf_E D K A s s.heap ∧ ∀ q, s.heap.size ≤ q → A q)) (v2 : Int32) (o0 : cf_O) (r : cf_O) (h : fAS_appendS_S14_24 v2 o0 = some r) {a0 : Nat → Nat} {H : Heap} {locs : List Loc} {ls : Array Slot} (hg : phSB os ≤ phSB o0) (hP : va_P D vwCl (wSB K h0 a0 o0) H) (hD : va_D A (wSB K h0 a0 o0)) (hS : va_S A s.heap H locs) (hl : lv_has ls 3 [(0, .ref h0), (1, .ref (K 114)), (2, .int v2)]) : W p l e ({ frames := 4, cells := (gC (phSB os) (phSB r)), slots := (gS (phSB os) (phSB r)), locals := 124 }) s m AR below meth c H locs (gC (phSB os) (phSB o0)) (gS (phSB os) (phSB o0)) (MQ below (va_Qr (fun (_ : Nat → Nat) => True) (fun (u : Nat → Nat) q t => cf_At D A (wSB K h0 u r) t ∧ q = h0) A) AR s (gC (phSB os) (phSB r)) (gS (phSB os) (phSB r)) A) (F0 m 24 ls []) := by
  obtain ⟨⟨hx, hb, hr, hts, hown, hlocks, hin, hml⟩, hE, hA⟩ := id C
  have hK := hE.k
  refine lv_aload_n hx hb dAS_appendS_24 rfl (lv_at hl 0 rfl) ?_
  refine lv_aload_n hx hb dAS_appendS_25 rfl (lv_at hl 0 rfl) ?_
  refine va_get (D := D) (ci := 13) (v := .int (o0.1 3)) (C := RSB) (T := TSB) (N := 4) hx hb hts inSB hown hK hP 0 rfl rfl 3 (by decide) (hts _ wv_457) (fun _ h9 => h9) rfl dAS_appendS_26 ?_
  refine lv_aload_n hx hb dAS_appendS_29 rfl (lv_at hl 1 rfl) ?_
  obtain ⟨q_1, hq_1, h⟩ := op_b h
  have hgr_2 : phSB q_1 ≤ phSB r := nAS_appendS_S14_33 _ _ _ h
  have hg2_3 : phSB o0 ≤ phSB q_1 := nAS_putStringAt_S14 _ _ _ hq_1
  refine dc_callv (va_runU (As := [.int (o0.1 3), .ref (K 114)]) (rest := []) ⟨hx, hb, hml, hown, hts⟩ (mAS_putStringAt_S14 l D K _ (o0.1 3) h0 a0 o0 _ hq_1) (cf_cwU (C := "java/lang/StringBuilder") 2 hts (cf_G1 wv_1614) rfl rfl rfl (hts _ wv_166) (hts _ wv_1611) (hts _ wv_2792) (va_Nw.use rfl (hE.n 31 rfl)) (hts _ wv_1613) (by decide +kernel) ⟨Nat.le_of_ble_eq_true rfl, Nat.le_of_ble_eq_true rfl⟩) (dc_preV hE hP hD hS hA rfl 0 rfl) rfl rfl hl.1 rfl (lv_room (Nat.le_of_ble_eq_true rfl)) dAS_appendS_30 ⟨gC_le (Nat.le_trans hg2_3 hgr_2), gS_le (Nat.le_trans hg2_3 hgr_2)⟩) hP hD hS hA (fun H locs hP hD hS => ?_)
  refine W.widen (k := (gC (phSB os) (phSB q_1))) (n := (gS (phSB os) (phSB q_1))) (gC_le hg2_3) (gS_le hg2_3) ?_
  have hg : phSB os ≤ phSB q_1 := Nat.le_trans hg hg2_3
  exact bAS_appendS_S14_33 C _ _ _ h hg hP hD hS (lv_sub hl [0, 2] rfl)
set_option maxHeartbeats 4000000 in
set_option maxRecDepth 100000 in
theorem bAS_appendS_S14_13 {p : Program} {l : Launch} {e : Env} {s : State} {m : MethodId} {below : List Frame} {meth : Method} {c : Code} {A : Nat → Prop} {D : va_G} {K : Nat → ClassId} {h0 : Nat} {os : cf_O} {AR : Array Value} (C : (dc_C p s m AR meth c cAS_appendS 3 (Option.some (Jvm.ClassFile.FieldType.object "java/lang/AbstractStringBuilder")) yAS_appendS ∧ cf_E D K A s s.heap ∧ ∀ q, s.heap.size ≤ q → A q)) (s0 : Int32) (o0 : cf_O) (r : cf_O) (h : fAS_appendS_S14_13 s0 o0 = some r) {a0 : Nat → Nat} {H : Heap} {locs : List Loc} {ls : Array Slot} (hg : phSB os ≤ phSB o0) (hP : va_P D vwCl (wSB K h0 a0 o0) H) (hD : va_D A (wSB K h0 a0 o0)) (hS : va_S A s.heap H locs) (hl : lv_has ls 3 [(0, .ref h0), (1, .ref (K 114))]) : W p l e ({ frames := 4, cells := (gC (phSB os) (phSB r)), slots := (gS (phSB os) (phSB r)), locals := 124 }) s m AR below meth c H locs (gC (phSB os) (phSB o0)) (gS (phSB os) (phSB o0)) (MQ below (va_Qr (fun (_ : Nat → Nat) => True) (fun (u : Nat → Nat) q t => cf_At D A (wSB K h0 u r) t ∧ q = h0) A) AR s (gC (phSB os) (phSB r)) (gS (phSB os) (phSB r)) A) (F0 m 13 ls [.int s0]) := by
  obtain ⟨⟨hx, hb, hr, hts, hown, hlocks, hin, hml⟩, hE, hA⟩ := id C
  have hK := hE.k
  refine lv_istore_n (lv' := [(2, .int s0), (0, .ref h0), (1, .ref (K 114))]) hx hb dAS_appendS_13 rfl hl (by decide) rfl (fun ls hl => ?_)
  refine lv_aload_n hx hb dAS_appendS_14 rfl (lv_at hl 1 rfl) ?_
  refine lv_aload_n hx hb dAS_appendS_15 rfl (lv_at hl 1 rfl) ?_
  refine va_get (D := D) (ci := 13) (v := .int (o0.1 3)) (C := RSB) (T := TSB) (N := 4) hx hb hts inSB hown hK hP 0 rfl rfl 3 (by decide) (hts _ wv_457) (fun _ h9 => h9) rfl dAS_appendS_16 ?_
  refine lv_iload_n hx hb dAS_appendS_19 rfl (lv_at hl 0 rfl) ?_
  refine lv_iadd hx hb dAS_appendS_20 ?_
  refine lv_topi (fun x_1 ex_1 => ?_)
  have h := op_ks ex_1 h
  obtain ⟨q_2, hq_2, h⟩ := op_b h
  have hgr_3 : phSB q_2 ≤ phSB r := nAS_appendS_S14_24 _ _ _ h
  have hg2_4 : phSB o0 ≤ phSB q_2 := nAS_ensureCapacityInternal _ _ _ hq_2
  refine cf_callv (wc := wSB K h0 a0 o0) (wr := []) (va_runU (As := [.int x_1]) (rest := []) ⟨hx, hb, hml, hown, hts⟩ (mAS_ensureCapacityInternal l D K _ x_1 h0 a0 o0 _ hq_2) (cf_cwU (C := "java/lang/StringBuilder") 1 hts (cf_G1 wv_1568) rfl rfl rfl (hts _ wv_166) (hts _ wv_1565) (hts _ wv_2790) (va_Nw.use rfl (hE.n 29 rfl)) (hts _ wv_1567) (by decide +kernel) ⟨Nat.le_of_ble_eq_true rfl, Nat.le_of_ble_eq_true rfl⟩) (cf_preV (wc := wSB K h0 a0 o0) hE hP hD hS hA rfl 0 rfl [0, 1] rfl (by decide +kernel)) rfl rfl hl.1 rfl (lv_room (Nat.le_of_ble_eq_true rfl)) dAS_appendS_21 ⟨Nat.le_trans (gC_add hg hg2_4) (gC_le hgr_3), Nat.le_trans (gS_add hg hg2_4) (gS_le hgr_3)⟩) hP hD hS hA [0, 1] [] rfl rfl (by decide +kernel) (by decide +kernel) (fun a0_6 H locs hw_5 hP hD hS => ?_)
  have hP : va_P D vwCl (wSB K h0 a0_6 q_2) H := hP.sub [0, 1] rfl
  have hD : va_D A (wSB K h0 a0_6 q_2) := hD.sub [0, 1] (by decide +kernel) rfl
  refine W.widen (k := (gC (phSB os) (phSB q_2))) (n := (gS (phSB os) (phSB q_2))) (gC_add hg hg2_4) (gS_add hg hg2_4) ?_
  have hg : phSB os ≤ phSB q_2 := Nat.le_trans hg hg2_4
  exact bAS_appendS_S14_24 C _ _ _ h hg hP hD hS (lv_sub hl [1, 2, 0] rfl)
set_option maxHeartbeats 4000000 in
set_option maxRecDepth 100000 in
theorem bAS_appendS_S14_0 {p : Program} {l : Launch} {e : Env} {s : State} {m : MethodId} {below : List Frame} {meth : Method} {c : Code} {A : Nat → Prop} {D : va_G} {K : Nat → ClassId} {h0 : Nat} {os : cf_O} {AR : Array Value} (C : (dc_C p s m AR meth c cAS_appendS 3 (Option.some (Jvm.ClassFile.FieldType.object "java/lang/AbstractStringBuilder")) yAS_appendS ∧ cf_E D K A s s.heap ∧ ∀ q, s.heap.size ≤ q → A q)) (o0 : cf_O) (r : cf_O) (h : fAS_appendS_S14_0 o0 = some r) {a0 : Nat → Nat} {H : Heap} {locs : List Loc} {ls : Array Slot} (hg : phSB os ≤ phSB o0) (hP : va_P D vwCl (wSB K h0 a0 o0) H) (hD : va_D A (wSB K h0 a0 o0)) (hS : va_S A s.heap H locs) (hl : lv_has ls 3 [(0, .ref h0), (1, .ref (K 114))]) : W p l e ({ frames := 4, cells := (gC (phSB os) (phSB r)), slots := (gS (phSB os) (phSB r)), locals := 124 }) s m AR below meth c H locs (gC (phSB os) (phSB o0)) (gS (phSB os) (phSB o0)) (MQ below (va_Qr (fun (_ : Nat → Nat) => True) (fun (u : Nat → Nat) q t => cf_At D A (wSB K h0 u r) t ∧ q = h0) A) AR s (gC (phSB os) (phSB r)) (gS (phSB os) (phSB r)) A) (F0 m 0 ls []) := by
  obtain ⟨⟨hx, hb, hr, hts, hown, hlocks, hin, hml⟩, hE, hA⟩ := id C
  have hK := hE.k
  refine lv_aload_n hx hb dAS_appendS_0 rfl (lv_at hl 1 rfl) ?_
  refine lv_ifnonnull (tgt := 9) hx hb dAS_appendS_1 (by decide) ?_
  refine lv_aload_n hx hb dAS_appendS_9 rfl (lv_at hl 1 rfl) ?_
  obtain ⟨q_1, hq_1, h⟩ := op_b h
  have hgr_2 : phSB o0 ≤ phSB r := nAS_appendS_S14_13 _ _ _ h
  refine cf_calli (wc := []) (wr := wSB K h0 a0 o0) (va_runV (As := []) (rest := []) ⟨hx, hb, hml, hown, hts⟩ (mJString_length__S14 l D K _ _ hq_1) (cwV 0 hts (cf_GV wv_1610 wv_757 wv_758 wv_168 wv_759) rfl rfl rfl (by decide +kernel) ⟨Nat.le_of_ble_eq_true rfl, Nat.le_of_ble_eq_true rfl⟩) (cf_preO (wc := []) (hE.s 14 rfl).2.1 hE hP hD hS hA [] rfl (by decide +kernel)) rfl rfl hl.1 rfl (lv_room (Nat.le_of_ble_eq_true rfl)) dAS_appendS_10 ⟨gC_le hgr_2, gS_le hgr_2⟩) hP hD hS hA [] [0, 1] rfl rfl (by decide +kernel) (by decide +kernel) (fun r_4 _ H locs hw_5 hP hD hS => ?_)
  subst r_4
  have hP : va_P D vwCl (wSB K h0 a0 o0) H := hP.sub [0, 1] rfl
  have hD : va_D A (wSB K h0 a0 o0) := hD.sub [0, 1] (by decide +kernel) rfl
  refine W.widen (k := (gC (phSB os) (phSB o0))) (n := (gS (phSB os) (phSB o0))) (Nat.le_refl _) (Nat.le_refl _) ?_
  exact bAS_appendS_S14_13 C _ _ _ h hg hP hD hS (lv_sub hl [0, 1] rfl)
set_option maxRecDepth 100000 in
theorem mAS_appendS_S14 (l : Launch) (D : va_G) (K : Nat → ClassId) (sz : Nat) (h0 : Nat) (a0 : Nat → Nat) (o0 : cf_O) (r : cf_O) (h : fAS_appendS_S14 o0 = some r) : Met l yAS_appendS (Cond.code yAS_appendS cAS_appendS 3 (Option.some (Jvm.ClassFile.FieldType.object "java/lang/AbstractStringBuilder")) :: cfB) ({ frames := 4, cells := (gC (phSB o0) (phSB r)), slots := (gS (phSB o0) (phSB r)), locals := 124 }) (va_Pc [.ref h0, .ref (K 114)] (cf_Pre D K sz (wSB K h0 a0 o0))) (va_Qr (fun (_ : Nat → Nat) => True) (fun (u : Nat → Nat) q t => cf_At D (va_A (wSB K h0 a0 o0) sz) (wSB K h0 u r) t ∧ q = h0) (va_A (wSB K h0 a0 o0) sz)) (gC (phSB o0) (phSB r)) (gS (phSB o0) (phSB r)) (va_A (wSB K h0 a0 o0) sz) := by
  refine cf_ofW (y := yAS_appendS) (As := [.ref h0, .ref (K 114)]) (WS := wSB K h0 a0 o0) (maxL := 3) (fun A => (va_Qr (fun (_ : Nat → Nat) => True) (fun (u : Nat → Nat) q t => cf_At D A (wSB K h0 u r) t ∧ q = h0) A)) (by decide) (Nat.le_of_ble_eq_true rfl) ?_
  intro p e s m below meth c A ls En hsz hA hP hD hE hS hl
  have C : (dc_C p s m (([.ref h0, .ref (K 114)] : List Value).toArray) meth c cAS_appendS 3 (Option.some (Jvm.ClassFile.FieldType.object "java/lang/AbstractStringBuilder")) yAS_appendS ∧ cf_E D K A s s.heap ∧ ∀ q, s.heap.size ≤ q → A q) := ⟨En, hE, hA⟩
  refine W.widen (k := gC (phSB o0) (phSB o0)) (n := gS (phSB o0) (phSB o0)) (Nat.zero_le _) (Nat.zero_le _) ?_
  exact bAS_appendS_S14_0 C o0 r h (Nat.le_refl _) hP hD hS hl
set_option maxRecDepth 100000 in
theorem nSB_appendS_S14_5 (o0 : cf_O) (r : cf_O) (h : fSB_appendS_S14_5 o0 = some r) : phSB o0 ≤ phSB r := by
  have hm : phSB o0 ≤ phSB o0 := Nat.le_refl _
  obtain rfl := Option.some.inj h
  exact hm
set_option maxRecDepth 100000 in
theorem nSB_appendS_S14_0 (o0 : cf_O) (r : cf_O) (h : fSB_appendS_S14_0 o0 = some r) : phSB o0 ≤ phSB r := by
  have hm : phSB o0 ≤ phSB o0 := Nat.le_refl _
  obtain ⟨q_1, hq_1, h⟩ := op_b h
  have hm : phSB o0 ≤ phSB q_1 := Nat.le_trans hm (nAS_appendS_S14 _ _ hq_1)
  exact Nat.le_trans hm (nSB_appendS_S14_5 _ _ h)
theorem nSB_appendS_S14 (o0 : cf_O) (r : cf_O) (h : fSB_appendS_S14 o0 = some r) : phSB o0 ≤ phSB r := nSB_appendS_S14_0  o0 r h
set_option maxHeartbeats 4000000 in
set_option maxRecDepth 100000 in
theorem bSB_appendS_S14_5 {p : Program} {l : Launch} {e : Env} {s : State} {m : MethodId} {below : List Frame} {meth : Method} {c : Code} {A : Nat → Prop} {D : va_G} {K : Nat → ClassId} {h0 : Nat} {os : cf_O} {AR : Array Value} (C : (dc_C p s m AR meth c cSB_appendS 2 (Option.some (Jvm.ClassFile.FieldType.object "java/lang/StringBuilder")) ySB_appendS ∧ cf_E D K A s s.heap ∧ ∀ q, s.heap.size ≤ q → A q)) (o0 : cf_O) (r : cf_O) (h : fSB_appendS_S14_5 o0 = some r) {a0 : Nat → Nat} {H : Heap} {locs : List Loc} {ls : Array Slot} (hg : phSB os ≤ phSB o0) (hP : va_P D vwCl (wSB K h0 a0 o0) H) (hD : va_D A (wSB K h0 a0 o0)) (hS : va_S A s.heap H locs) (hl : lv_has ls 2 [(0, .ref h0)]) : W p l e ({ frames := 5, cells := (gC (phSB os) (phSB r)), slots := (gS (phSB os) (phSB r)), locals := 146 }) s m AR below meth c H locs (gC (phSB os) (phSB o0)) (gS (phSB os) (phSB o0)) (MQ below (va_Qr (fun (_ : Nat → Nat) => True) (fun (u : Nat → Nat) q t => cf_At D A (wSB K h0 u r) t ∧ q = h0) A) AR s (gC (phSB os) (phSB r)) (gS (phSB os) (phSB r)) A) (F0 m 5 ls [.ref h0]) := by
  obtain ⟨⟨hx, hb, hr, hts, hown, hlocks, hin, hml⟩, hE, hA⟩ := id C
  have hK := hE.k
  refine lv_pop hx hb dSB_appendS_5 rfl ?_
  refine lv_aload_n hx hb dSB_appendS_6 rfl (lv_at hl 0 rfl) ?_
  obtain rfl := Option.some.inj h
  exact dc_aretG a0 hx hb hr ⟨_, rfl⟩ hlocks hP hD hS dSB_appendS_7
set_option maxHeartbeats 4000000 in
set_option maxRecDepth 100000 in
theorem bSB_appendS_S14_0 {p : Program} {l : Launch} {e : Env} {s : State} {m : MethodId} {below : List Frame} {meth : Method} {c : Code} {A : Nat → Prop} {D : va_G} {K : Nat → ClassId} {h0 : Nat} {os : cf_O} {AR : Array Value} (C : (dc_C p s m AR meth c cSB_appendS 2 (Option.some (Jvm.ClassFile.FieldType.object "java/lang/StringBuilder")) ySB_appendS ∧ cf_E D K A s s.heap ∧ ∀ q, s.heap.size ≤ q → A q)) (o0 : cf_O) (r : cf_O) (h : fSB_appendS_S14_0 o0 = some r) {a0 : Nat → Nat} {H : Heap} {locs : List Loc} {ls : Array Slot} (hg : phSB os ≤ phSB o0) (hP : va_P D vwCl (wSB K h0 a0 o0) H) (hD : va_D A (wSB K h0 a0 o0)) (hS : va_S A s.heap H locs) (hl : lv_has ls 2 [(0, .ref h0), (1, .ref (K 114))]) : W p l e ({ frames := 5, cells := (gC (phSB os) (phSB r)), slots := (gS (phSB os) (phSB r)), locals := 146 }) s m AR below meth c H locs (gC (phSB os) (phSB o0)) (gS (phSB os) (phSB o0)) (MQ below (va_Qr (fun (_ : Nat → Nat) => True) (fun (u : Nat → Nat) q t => cf_At D A (wSB K h0 u r) t ∧ q = h0) A) AR s (gC (phSB os) (phSB r)) (gS (phSB os) (phSB r)) A) (F0 m 0 ls []) := by
  obtain ⟨⟨hx, hb, hr, hts, hown, hlocks, hin, hml⟩, hE, hA⟩ := id C
  have hK := hE.k
  refine lv_aload_n hx hb dSB_appendS_0 rfl (lv_at hl 0 rfl) ?_
  refine lv_aload_n hx hb dSB_appendS_1 rfl (lv_at hl 1 rfl) ?_
  obtain ⟨q_1, hq_1, h⟩ := op_b h
  have hgr_2 : phSB q_1 ≤ phSB r := nSB_appendS_S14_5 _ _ h
  have hg2_3 : phSB o0 ≤ phSB q_1 := nAS_appendS_S14 _ _ hq_1
  refine cf_callR (wc := wSB K h0 a0 o0) (wr := []) (va_runSU (hK.1 13 _ rfl).2 (As := [.ref (K 114)]) (rest := []) ⟨hx, hb, hml, hown, hts⟩ (mAS_appendS_S14 l D K _ h0 a0 o0 _ hq_1) (cf_cwSU 1 hts (cf_G1 wv_1560) rfl rfl rfl (hts _ wv_1558) (hts _ wv_2788) (hts _ wv_466) (hts _ wv_1559) (hts _ wv_166) (by decide +kernel) ⟨Nat.le_of_ble_eq_true rfl, Nat.le_of_ble_eq_true rfl⟩) (cf_preV (wc := wSB K h0 a0 o0) hE hP hD hS hA rfl 0 rfl [0, 1] rfl (by decide +kernel)) rfl rfl hl.1 rfl (lv_room (Nat.le_of_ble_eq_true rfl)) dSB_appendS_2 ⟨Nat.le_trans (gC_add hg hg2_3) (gC_le hgr_2), Nat.le_trans (gS_add hg hg2_3) (gS_le hgr_2)⟩) hP hD hS hA [0, 1] [] rfl rfl (by decide +kernel) (by decide +kernel) (fun a0_5 H locs hw_4 hP hD hS => ?_)
  have hP : va_P D vwCl (wSB K h0 a0_5 q_1) H := hP.sub [0, 1] rfl
  have hD : va_D A (wSB K h0 a0_5 q_1) := hD.sub [0, 1] (by decide +kernel) rfl
  refine W.widen (k := (gC (phSB os) (phSB q_1))) (n := (gS (phSB os) (phSB q_1))) (gC_add hg hg2_3) (gS_add hg hg2_3) ?_
  have hg : phSB os ≤ phSB q_1 := Nat.le_trans hg hg2_3
  exact bSB_appendS_S14_5 C _ _ h hg hP hD hS (lv_sub hl [0] rfl)
set_option maxRecDepth 100000 in
theorem mSB_appendS_S14 (l : Launch) (D : va_G) (K : Nat → ClassId) (sz : Nat) (h0 : Nat) (a0 : Nat → Nat) (o0 : cf_O) (r : cf_O) (h : fSB_appendS_S14 o0 = some r) : Met l ySB_appendS (Cond.code ySB_appendS cSB_appendS 2 (Option.some (Jvm.ClassFile.FieldType.object "java/lang/StringBuilder")) :: cfB) ({ frames := 5, cells := (gC (phSB o0) (phSB r)), slots := (gS (phSB o0) (phSB r)), locals := 146 }) (va_Pc [.ref h0, .ref (K 114)] (cf_Pre D K sz (wSB K h0 a0 o0))) (va_Qr (fun (_ : Nat → Nat) => True) (fun (u : Nat → Nat) q t => cf_At D (va_A (wSB K h0 a0 o0) sz) (wSB K h0 u r) t ∧ q = h0) (va_A (wSB K h0 a0 o0) sz)) (gC (phSB o0) (phSB r)) (gS (phSB o0) (phSB r)) (va_A (wSB K h0 a0 o0) sz) := by
  refine cf_ofW (y := ySB_appendS) (As := [.ref h0, .ref (K 114)]) (WS := wSB K h0 a0 o0) (maxL := 2) (fun A => (va_Qr (fun (_ : Nat → Nat) => True) (fun (u : Nat → Nat) q t => cf_At D A (wSB K h0 u r) t ∧ q = h0) A)) (by decide) (Nat.le_of_ble_eq_true rfl) ?_
  intro p e s m below meth c A ls En hsz hA hP hD hE hS hl
  have C : (dc_C p s m (([.ref h0, .ref (K 114)] : List Value).toArray) meth c cSB_appendS 2 (Option.some (Jvm.ClassFile.FieldType.object "java/lang/StringBuilder")) ySB_appendS ∧ cf_E D K A s s.heap ∧ ∀ q, s.heap.size ≤ q → A q) := ⟨En, hE, hA⟩
  refine W.widen (k := gC (phSB o0) (phSB o0)) (n := gS (phSB o0) (phSB o0)) (Nat.zero_le _) (Nat.zero_le _) ?_
  exact bSB_appendS_S14_0 C o0 r h (Nat.le_refl _) hP hD hS hl
set_option maxHeartbeats 4000000 in
set_option maxRecDepth 100000 in
theorem bJString_coder__S13_14 {p : Program} {l : Launch} {e : Env} {s : State} {m : MethodId} {below : List Frame} {meth : Method} {c : Code} {A : Nat → Prop} {D : va_G} {K : Nat → ClassId} {AR : Array Value} (C : (dc_C p s m AR meth c cJString_coder_ 1 (Option.some Jvm.ClassFile.FieldType.byte) yJString_coder_ ∧ cf_E D K A s s.heap ∧ ∀ q, s.heap.size ≤ q → A q)) (s0 : Int32) (r : Int32) (h : fJString_coder__S13_14 s0 = some r) {H : Heap} {locs : List Loc} {ls : Array Slot} (hP : va_P D vwCl ([]) H) (hD : va_D A ([])) (hS : va_S A s.heap H locs) (hl : lv_has ls 1 []) : W p l e ({ frames := 0, cells := 0, slots := 0, locals := 0 }) s m AR below meth c H locs 0 0 (MQ below (va_Qi (fun (x : Int32) (_ : Unit) => x = r) (fun (_ : Unit) t => cf_At D A ([]) t) A) AR s 0 0 A) (F0 m 14 ls [.int s0]) := by
  obtain ⟨⟨hx, hb, hr, hts, hown, hlocks, hin, hml⟩, hE, hA⟩ := id C
  have hK := hE.k
  obtain ⟨hz_1, h⟩ := op_w h
  obtain rfl := Option.some.inj h
  exact dc_zretn hx hb hr (op_nb hz_1) hlocks rfl hP hD hS dJString_coder__14
set_option maxHeartbeats 4000000 in
set_option maxRecDepth 100000 in
theorem bJString_coder__S13_0 {p : Program} {l : Launch} {e : Env} {s : State} {m : MethodId} {below : List Frame} {meth : Method} {c : Code} {A : Nat → Prop} {D : va_G} {K : Nat → ClassId} {AR : Array Value} (C : (dc_C p s m AR meth c cJString_coder_ 1 (Option.some Jvm.ClassFile.FieldType.byte) yJString_coder_ ∧ cf_E D K A s s.heap ∧ ∀ q, s.heap.size ≤ q → A q)) (r : Int32) (h : fJString_coder__S13_0 = some r) {H : Heap} {locs : List Loc} {ls : Array Slot} (hP : va_P D vwCl ([]) H) (hD : va_D A ([])) (hS : va_S A s.heap H locs) (hl : lv_has ls 1 [(0, .ref (K 113))]) : W p l e ({ frames := 0, cells := 0, slots := 0, locals := 0 }) s m AR below meth c H locs 0 0 (MQ below (va_Qi (fun (x : Int32) (_ : Unit) => x = r) (fun (_ : Unit) t => cf_At D A ([]) t) A) AR s 0 0 A) (F0 m 0 ls []) := by
  obtain ⟨⟨hx, hb, hr, hts, hown, hlocks, hin, hml⟩, hE, hA⟩ := id C
  have hK := hE.k
  refine va_gets hx hb hE.2.2.2.2.2.2.1 hS hown (hts _ wv_764) (fun _ h9 => h9) dJString_coder__0 ?_
  refine lv_if_eq (tgt := 13) hx hb dJString_coder__3 (by decide) (fun c_1 => absurd c_1 (by decide)) (fun _ => ?_)
  refine lv_aload_n hx hb dJString_coder__6 rfl (lv_at hl 0 rfl) ?_
  refine vk_getf hx hb (hE.s 13 rfl).2.2.1 hS hown (hts _ wv_1736) (fun _ h9 => h9) dJString_coder__7 ?_
  refine lv_goto (tgt := 14) hx hb dJString_coder__10 (by decide) ?_
  exact bJString_coder__S13_14 C _ _ h hP hD hS (lv_sub hl [] rfl)
set_option maxRecDepth 100000 in
theorem mJString_coder__S13 (l : Launch) (D : va_G) (K : Nat → ClassId) (sz : Nat) (r : Int32) (h : fJString_coder__S13 = some r) : Met l yJString_coder_ (Cond.code yJString_coder_ cJString_coder_ 1 (Option.some Jvm.ClassFile.FieldType.byte) :: cfB) ({ frames := 0, cells := 0, slots := 0, locals := 0 }) (va_Pc [.ref (K 113)] (cf_Pre D K sz ([]))) (va_Qi (fun (x : Int32) (_ : Unit) => x = r) (fun (_ : Unit) t => cf_At D (va_A ([]) sz) ([]) t) (va_A ([]) sz)) 0 0 (va_A ([]) sz) := by
  refine cf_ofW (y := yJString_coder_) (As := [.ref (K 113)]) (WS := []) (maxL := 1) (fun A => (va_Qi (fun (x : Int32) (_ : Unit) => x = r) (fun (_ : Unit) t => cf_At D A ([]) t) A)) (by decide) (Nat.le_of_ble_eq_true rfl) ?_
  intro p e s m below meth c A ls En hsz hA hP hD hE hS hl
  have C : (dc_C p s m (([.ref (K 113)] : List Value).toArray) meth c cJString_coder_ 1 (Option.some Jvm.ClassFile.FieldType.byte) yJString_coder_ ∧ cf_E D K A s s.heap ∧ ∀ q, s.heap.size ≤ q → A q) := ⟨En, hE, hA⟩
  exact bJString_coder__S13_0 C r h hP hD hS hl
set_option maxHeartbeats 4000000 in
set_option maxRecDepth 100000 in
theorem bJString_length__S13_0 {p : Program} {l : Launch} {e : Env} {s : State} {m : MethodId} {below : List Frame} {meth : Method} {c : Code} {A : Nat → Prop} {D : va_G} {K : Nat → ClassId} {AR : Array Value} (C : (dc_C p s m AR meth c cJString_length_ 1 (Option.some Jvm.ClassFile.FieldType.int) yJString_length_ ∧ cf_E D K A s s.heap ∧ ∀ q, s.heap.size ≤ q → A q)) (r : Int32) (h : fJString_length__S13_0 = some r) {H : Heap} {locs : List Loc} {ls : Array Slot} (hP : va_P D vwCl ([]) H) (hD : va_D A ([])) (hS : va_S A s.heap H locs) (hl : lv_has ls 1 [(0, .ref (K 113))]) : W p l e ({ frames := 1, cells := 0, slots := 0, locals := 20 }) s m AR below meth c H locs 0 0 (MQ below (va_Qi (fun (x : Int32) (_ : Unit) => x = r) (fun (_ : Unit) t => cf_At D A ([]) t) A) AR s 0 0 A) (F0 m 0 ls []) := by
  obtain ⟨⟨hx, hb, hr, hts, hown, hlocks, hin, hml⟩, hE, hA⟩ := id C
  have hK := hE.k
  refine lv_aload_n hx hb dJString_length__0 rfl (lv_at hl 0 rfl) ?_
  refine vk_getf hx hb (hE.s 13 rfl).2.2.2.1 hS hown (hts _ wv_1735) (fun _ h9 => h9) dJString_length__1 ?_
  refine va_tlen (v := 4) hx hb (hE.s 13 rfl).2.2.2.2 hS rfl dJString_length__4 ?_
  refine lv_aload_n hx hb dJString_length__5 rfl (lv_at hl 0 rfl) ?_
  obtain ⟨q_1, hq_1, h⟩ := op_b h
  refine cf_calli (wc := []) (wr := []) (va_runV (As := []) (rest := [.int 4]) ⟨hx, hb, hml, hown, hts⟩ (mJString_coder__S13 l D K _ _ hq_1) (cwV 0 hts (cf_GV wv_760 wv_761 wv_762 wv_168 wv_763) rfl rfl rfl (by decide +kernel) ⟨Nat.le_of_ble_eq_true rfl, Nat.le_of_ble_eq_true rfl⟩) (cf_preO (wc := []) (hE.s 13 rfl).2.1 hE hP hD hS hA [] rfl (by decide +kernel)) rfl rfl hl.1 rfl (lv_room (Nat.le_of_ble_eq_true rfl)) dJString_length__6 ⟨Nat.le_of_ble_eq_true rfl, Nat.le_of_ble_eq_true rfl⟩) hP hD hS hA [] [] rfl rfl (by decide +kernel) (by decide +kernel) (fun r_2 _ H locs hw_3 hP hD hS => ?_)
  subst r_2
  have hP : va_P D vwCl ([]) H := hP.sub [] rfl
  have hD : va_D A ([]) := hD.sub [] (by decide +kernel) rfl
  refine lv_ishr hx hb dJString_length__9 ?_
  refine lv_topi (fun x_4 ex_4 => ?_)
  have h := op_ks ex_4 h
  obtain rfl := Option.some.inj h
  exact dc_iret hx hb hr hlocks rfl hP hD hS dJString_length__10
set_option maxRecDepth 100000 in
theorem mJString_length__S13 (l : Launch) (D : va_G) (K : Nat → ClassId) (sz : Nat) (r : Int32) (h : fJString_length__S13 = some r) : Met l yJString_length_ (Cond.code yJString_length_ cJString_length_ 1 (Option.some Jvm.ClassFile.FieldType.int) :: cfB) ({ frames := 1, cells := 0, slots := 0, locals := 20 }) (va_Pc [.ref (K 113)] (cf_Pre D K sz ([]))) (va_Qi (fun (x : Int32) (_ : Unit) => x = r) (fun (_ : Unit) t => cf_At D (va_A ([]) sz) ([]) t) (va_A ([]) sz)) 0 0 (va_A ([]) sz) := by
  refine cf_ofW (y := yJString_length_) (As := [.ref (K 113)]) (WS := []) (maxL := 1) (fun A => (va_Qi (fun (x : Int32) (_ : Unit) => x = r) (fun (_ : Unit) t => cf_At D A ([]) t) A)) (by decide) (Nat.le_of_ble_eq_true rfl) ?_
  intro p e s m below meth c A ls En hsz hA hP hD hE hS hl
  have C : (dc_C p s m (([.ref (K 113)] : List Value).toArray) meth c cJString_length_ 1 (Option.some Jvm.ClassFile.FieldType.int) yJString_length_ ∧ cf_E D K A s s.heap ∧ ∀ q, s.heap.size ≤ q → A q) := ⟨En, hE, hA⟩
  exact bJString_length__S13_0 C r h hP hD hS hl
set_option maxHeartbeats 4000000 in
set_option maxRecDepth 100000 in
theorem bAS_inflateIfNeededFor_S13_21 {p : Program} {l : Launch} {e : Env} {s : State} {m : MethodId} {below : List Frame} {meth : Method} {c : Code} {A : Nat → Prop} {D : va_G} {K : Nat → ClassId} {h0 : Nat} {a0 : Nat → Nat} {AR : Array Value} (C : (dc_C p s m AR meth c cAS_inflateIfNeededFor 2 (Option.none : Option Jvm.ClassFile.FieldType) yAS_inflateIfNeededFor ∧ cf_E D K A s s.heap ∧ ∀ q, s.heap.size ≤ q → A q)) (o0 : cf_O) (r : Unit) (h : fAS_inflateIfNeededFor_S13_21 o0 = some r) {H : Heap} {locs : List Loc} {ls : Array Slot} (hP : va_P D vwCl (wSB K h0 a0 o0) H) (hD : va_D A (wSB K h0 a0 o0)) (hS : va_S A s.heap H locs) (hl : lv_has ls 2 []) : W p l e ({ frames := 1, cells := 0, slots := 0, locals := 20 }) s m AR below meth c H locs 0 0 (MQ below (va_Qv (fun (_ : Unit) => True) (fun (_ : Unit) t => cf_At D A (wSB K h0 a0 o0) t) A) AR s 0 0 A) (F0 m 21 ls []) := by
  obtain ⟨⟨hx, hb, hr, hts, hown, hlocks, hin, hml⟩, hE, hA⟩ := id C
  have hK := hE.k
  obtain rfl := Option.some.inj h
  exact dc_vret hx hb hr hlocks rfl hP hD hS dAS_inflateIfNeededFor_21
set_option maxHeartbeats 4000000 in
set_option maxRecDepth 100000 in
theorem bAS_inflateIfNeededFor_S13_0 {p : Program} {l : Launch} {e : Env} {s : State} {m : MethodId} {below : List Frame} {meth : Method} {c : Code} {A : Nat → Prop} {D : va_G} {K : Nat → ClassId} {h0 : Nat} {a0 : Nat → Nat} {AR : Array Value} (C : (dc_C p s m AR meth c cAS_inflateIfNeededFor 2 (Option.none : Option Jvm.ClassFile.FieldType) yAS_inflateIfNeededFor ∧ cf_E D K A s s.heap ∧ ∀ q, s.heap.size ≤ q → A q)) (o0 : cf_O) (r : Unit) (h : fAS_inflateIfNeededFor_S13_0 o0 = some r) {H : Heap} {locs : List Loc} {ls : Array Slot} (hP : va_P D vwCl (wSB K h0 a0 o0) H) (hD : va_D A (wSB K h0 a0 o0)) (hS : va_S A s.heap H locs) (hl : lv_has ls 2 [(0, .ref h0), (1, .ref (K 113))]) : W p l e ({ frames := 1, cells := 0, slots := 0, locals := 20 }) s m AR below meth c H locs 0 0 (MQ below (va_Qv (fun (_ : Unit) => True) (fun (_ : Unit) t => cf_At D A (wSB K h0 a0 o0) t) A) AR s 0 0 A) (F0 m 0 ls []) := by
  obtain ⟨⟨hx, hb, hr, hts, hown, hlocks, hin, hml⟩, hE, hA⟩ := id C
  have hK := hE.k
  refine va_gets hx hb hE.2.2.2.2.2.2.1 hS hown (hts _ wv_444) (fun _ h9 => h9) dAS_inflateIfNeededFor_0 ?_
  refine lv_if_eq (tgt := 21) hx hb dAS_inflateIfNeededFor_3 (by decide) (fun c_1 => absurd c_1 (by decide)) (fun _ => ?_)
  refine lv_aload_n hx hb dAS_inflateIfNeededFor_6 rfl (lv_at hl 0 rfl) ?_
  refine va_get (D := D) (ci := 13) (v := .int (o0.1 1)) (C := RSB) (T := TSB) (N := 4) hx hb hts inSB hown hK hP 0 rfl rfl 1 (by decide) (hts _ wv_454) (fun _ h9 => h9) rfl dAS_inflateIfNeededFor_7 ?_
  refine lv_aload_n hx hb dAS_inflateIfNeededFor_10 rfl (lv_at hl 1 rfl) ?_
  obtain ⟨q_2, hq_2, h⟩ := op_b h
  refine cf_calli (wc := []) (wr := wSB K h0 a0 o0) (va_runV (As := []) (rest := [.int (o0.1 1)]) ⟨hx, hb, hml, hown, hts⟩ (mJString_coder__S13 l D K _ _ hq_2) (cwV 0 hts (cf_GV wv_1619 wv_761 wv_762 wv_168 wv_763) rfl rfl rfl (by decide +kernel) ⟨Nat.le_of_ble_eq_true rfl, Nat.le_of_ble_eq_true rfl⟩) (cf_preO (wc := []) (hE.s 13 rfl).2.1 hE hP hD hS hA [] rfl (by decide +kernel)) rfl rfl hl.1 rfl (lv_room (Nat.le_of_ble_eq_true rfl)) dAS_inflateIfNeededFor_11 ⟨Nat.le_of_ble_eq_true rfl, Nat.le_of_ble_eq_true rfl⟩) hP hD hS hA [] [0, 1] rfl rfl (by decide +kernel) (by decide +kernel) (fun r_3 _ H locs hw_4 hP hD hS => ?_)
  subst r_3
  have hP : va_P D vwCl (wSB K h0 a0 o0) H := hP.sub [0, 1] rfl
  have hD : va_D A (wSB K h0 a0 o0) := hD.sub [0, 1] (by decide +kernel) rfl
  refine lv_icmp_eq (tgt := 21) hx hb dAS_inflateIfNeededFor_14 (by decide) (fun c_5 => ?_) (fun c_5 => ?_)
  · have h := op_t c_5 h
    exact bAS_inflateIfNeededFor_S13_21 C _ _ h hP hD hS (lv_sub hl [] rfl)
  · have h := op_f c_5 h
    refine lv_aload_n hx hb dAS_inflateIfNeededFor_17 rfl (lv_at hl 0 rfl) ?_
    cases h
set_option maxRecDepth 100000 in
theorem mAS_inflateIfNeededFor_S13 (l : Launch) (D : va_G) (K : Nat → ClassId) (sz : Nat) (h0 : Nat) (a0 : Nat → Nat) (o0 : cf_O) (r : Unit) (h : fAS_inflateIfNeededFor_S13 o0 = some r) : Met l yAS_inflateIfNeededFor (Cond.code yAS_inflateIfNeededFor cAS_inflateIfNeededFor 2 (Option.none : Option Jvm.ClassFile.FieldType) :: cfB) ({ frames := 1, cells := 0, slots := 0, locals := 20 }) (va_Pc [.ref h0, .ref (K 113)] (cf_Pre D K sz (wSB K h0 a0 o0))) (va_Qv (fun (_ : Unit) => True) (fun (_ : Unit) t => cf_At D (va_A (wSB K h0 a0 o0) sz) (wSB K h0 a0 o0) t) (va_A (wSB K h0 a0 o0) sz)) 0 0 (va_A (wSB K h0 a0 o0) sz) := by
  refine cf_ofW (y := yAS_inflateIfNeededFor) (As := [.ref h0, .ref (K 113)]) (WS := wSB K h0 a0 o0) (maxL := 2) (fun A => (va_Qv (fun (_ : Unit) => True) (fun (_ : Unit) t => cf_At D A (wSB K h0 a0 o0) t) A)) (by decide) (Nat.le_of_ble_eq_true rfl) ?_
  intro p e s m below meth c A ls En hsz hA hP hD hE hS hl
  have C : (dc_C p s m (([.ref h0, .ref (K 113)] : List Value).toArray) meth c cAS_inflateIfNeededFor 2 (Option.none : Option Jvm.ClassFile.FieldType) yAS_inflateIfNeededFor ∧ cf_E D K A s s.heap ∧ ∀ q, s.heap.size ≤ q → A q) := ⟨En, hE, hA⟩
  exact bAS_inflateIfNeededFor_S13_0 C o0 r h hP hD hS hl
set_option maxRecDepth 100000 in
theorem nJString_getBytes_ABIB_S13_SB0_0 (v2 : Int32) (v3 : Int32) (o0 : cf_O) (r : cf_O) (h : fJString_getBytes_ABIB_S13_SB0_0 v2 v3 o0 = some r) : phSB o0 ≤ phSB r := by
  have hm : phSB o0 ≤ phSB o0 := Nat.le_refl _
  obtain ⟨q_1, hq_1, h⟩ := op_b h
  rcases (Classical.em (q_1 = v3)).symm with c_4 | c_4
  · have h := op_f c_4 h
    cases h
  · have h := op_t c_4 h
    obtain ⟨x_5, ex_5, h⟩ := op_kx h
    obtain ⟨hi_6, h⟩ := op_n h
    obtain ⟨o_7, eo_7, h⟩ := op_kx h
    have hm : phSB o0 ≤ phSB o_7 := by rw [eo_7]; exact hm
    obtain rfl := Option.some.inj h
    exact hm
theorem nJString_getBytes_ABIB_S13_SB0 (v2 : Int32) (v3 : Int32) (o0 : cf_O) (r : cf_O) (h : fJString_getBytes_ABIB_S13_SB0 v2 v3 o0 = some r) : phSB o0 ≤ phSB r := nJString_getBytes_ABIB_S13_SB0_0  v2 v3 o0 r h
set_option maxHeartbeats 4000000 in
set_option maxRecDepth 100000 in
theorem bJString_getBytes_ABIB_S13_SB0_0 {p : Program} {l : Launch} {e : Env} {s : State} {m : MethodId} {below : List Frame} {meth : Method} {c : Code} {A : Nat → Prop} {D : va_G} {K : Nat → ClassId} {h0 : Nat} {a0 : Nat → Nat} {AR : Array Value} (C : (dc_C p s m AR meth c cJString_getBytes_ABIB 4 (Option.none : Option Jvm.ClassFile.FieldType) yJString_getBytes_ABIB ∧ cf_E D K A s s.heap ∧ ∀ q, s.heap.size ≤ q → A q)) (v2 : Int32) (v3 : Int32) (o0 : cf_O) (r : cf_O) (h : fJString_getBytes_ABIB_S13_SB0_0 v2 v3 o0 = some r) {H : Heap} {locs : List Loc} {ls : Array Slot} (hP : va_P D vwCl (wSB K h0 a0 o0) H) (hD : va_D A (wSB K h0 a0 o0)) (hS : va_S A s.heap H locs) (hl : lv_has ls 4 [(0, .ref (K 113)), (1, .ref (a0 0)), (2, .int v2), (3, .int v3)]) : W p l e ({ frames := 1, cells := 0, slots := 0, locals := 60 }) s m AR below meth c H locs 0 0 (MQ below (va_Qv (fun (_ : Unit) => True) (fun (_ : Unit) t => cf_At D A (wSB K h0 a0 r) t) A) AR s 0 0 A) (F0 m 0 ls []) := by
  obtain ⟨⟨hx, hb, hr, hts, hown, hlocks, hin, hml⟩, hE, hA⟩ := id C
  have hK := hE.k
  refine lv_aload_n hx hb dJString_getBytes_ABIB_0 rfl (lv_at hl 0 rfl) ?_
  obtain ⟨q_1, hq_1, h⟩ := op_b h
  refine cf_calli (wc := []) (wr := wSB K h0 a0 o0) (va_runV (As := []) (rest := []) ⟨hx, hb, hml, hown, hts⟩ (mJString_coder__S13 l D K _ _ hq_1) (cwV 0 hts (cf_GV wv_760 wv_761 wv_762 wv_168 wv_763) rfl rfl rfl (by decide +kernel) ⟨Nat.le_of_ble_eq_true rfl, Nat.le_of_ble_eq_true rfl⟩) (cf_preO (wc := []) (hE.s 13 rfl).2.1 hE hP hD hS hA [] rfl (by decide +kernel)) rfl rfl hl.1 rfl (lv_room (Nat.le_of_ble_eq_true rfl)) dJString_getBytes_ABIB_1 ⟨Nat.le_of_ble_eq_true rfl, Nat.le_of_ble_eq_true rfl⟩) hP hD hS hA [] [0, 1] rfl rfl (by decide +kernel) (by decide +kernel) (fun r_2 _ H locs hw_3 hP hD hS => ?_)
  subst r_2
  have hP : va_P D vwCl (wSB K h0 a0 o0) H := hP.sub [0, 1] rfl
  have hD : va_D A (wSB K h0 a0 o0) := hD.sub [0, 1] (by decide +kernel) rfl
  refine lv_iload_n hx hb dJString_getBytes_ABIB_4 rfl (lv_at hl 3 rfl) ?_
  refine lv_icmp_ne (tgt := 28) hx hb dJString_getBytes_ABIB_5 (by decide) (fun c_4 => ?_) (fun c_4 => ?_)
  · have h := op_f c_4 h
    refine lv_aload_n hx hb dJString_getBytes_ABIB_28 rfl (lv_at hl 0 rfl) ?_
    refine vk_getf hx hb (hE.s 13 rfl).2.2.2.1 hS hown (hts _ wv_1735) (fun _ h9 => h9) dJString_getBytes_ABIB_29 ?_
    refine lv_iconst (v := 0) hx hb dJString_getBytes_ABIB_32 (by decide) ?_
    refine lv_aload_n hx hb dJString_getBytes_ABIB_33 rfl (lv_at hl 1 rfl) ?_
    refine lv_iload_n hx hb dJString_getBytes_ABIB_34 rfl (lv_at hl 2 rfl) ?_
    refine lv_aload_n hx hb dJString_getBytes_ABIB_35 rfl (lv_at hl 0 rfl) ?_
    refine vk_getf hx hb (hE.s 13 rfl).2.2.2.1 hS hown (hts _ wv_1735) (fun _ h9 => h9) dJString_getBytes_ABIB_36 ?_
    refine va_tlen (v := 4) hx hb (hE.s 13 rfl).2.2.2.2 hS rfl dJString_getBytes_ABIB_39 ?_
    cases h
  · have h := op_t c_4 h
    refine lv_aload_n hx hb dJString_getBytes_ABIB_8 rfl (lv_at hl 0 rfl) ?_
    refine vk_getf hx hb (hE.s 13 rfl).2.2.2.1 hS hown (hts _ wv_1735) (fun _ h9 => h9) dJString_getBytes_ABIB_9 ?_
    refine lv_iconst (v := 0) hx hb dJString_getBytes_ABIB_12 (by decide) ?_
    refine lv_aload_n hx hb dJString_getBytes_ABIB_13 rfl (lv_at hl 1 rfl) ?_
    refine lv_iload_n hx hb dJString_getBytes_ABIB_14 rfl (lv_at hl 2 rfl) ?_
    refine lv_iload_n hx hb dJString_getBytes_ABIB_15 rfl (lv_at hl 3 rfl) ?_
    refine lv_ishl hx hb dJString_getBytes_ABIB_16 ?_
    refine lv_topi (fun x_5 ex_5 => ?_)
    have h := op_ks ex_5 h
    refine lv_aload_n hx hb dJString_getBytes_ABIB_17 rfl (lv_at hl 0 rfl) ?_
    refine vk_getf hx hb (hE.s 13 rfl).2.2.2.1 hS hown (hts _ wv_1735) (fun _ h9 => h9) dJString_getBytes_ABIB_18 ?_
    refine va_tlen (v := 4) hx hb (hE.s 13 rfl).2.2.2.2 hS rfl dJString_getBytes_ABIB_21 ?_
    obtain ⟨hi_6, h⟩ := op_n h
    refine vk_copyt (D := D) (f := cf_sb 13) hx hb (hml.trans hl.1.symm) hown (hts _ wv_1643) (hts _ wv_1295) (hts _ wv_1294) (hts _ wv_187) hK hP hD hS (hE.s 13 rfl).2.2.2.2 1 2 rfl rfl (by decide) (fun z => hi_6 (Or.inl z)) (by decide) (by decide) (Nat.not_lt.mp (fun z => hi_6 (Or.inr z))) (by decide) (Nat.le_of_ble_eq_true rfl) (Nat.le_of_ble_eq_true rfl) dJString_getBytes_ABIB_22 (fun H locs hP hD hS => ?_)
    have hP : va_P D vwCl (wSB K h0 a0 (cb o0 0 13 x_5 4)) H := hP
    have hD : va_D A (wSB K h0 a0 (cb o0 0 13 x_5 4)) := hD
    obtain ⟨o_7, eo_7, h⟩ := op_kx h
    rw [← eo_7] at hP hD
    refine lv_goto (tgt := 43) hx hb dJString_getBytes_ABIB_25 (by decide) ?_
    obtain rfl := Option.some.inj h
    exact dc_vret hx hb hr hlocks rfl hP hD hS dJString_getBytes_ABIB_43
set_option maxRecDepth 100000 in
theorem mJString_getBytes_ABIB_S13_SB0 (l : Launch) (D : va_G) (K : Nat → ClassId) (sz : Nat) (v2 : Int32) (v3 : Int32) (h0 : Nat) (a0 : Nat → Nat) (o0 : cf_O) (r : cf_O) (h : fJString_getBytes_ABIB_S13_SB0 v2 v3 o0 = some r) : Met l yJString_getBytes_ABIB (Cond.code yJString_getBytes_ABIB cJString_getBytes_ABIB 4 (Option.none : Option Jvm.ClassFile.FieldType) :: cfB) ({ frames := 1, cells := 0, slots := 0, locals := 60 }) (va_Pc [.ref (K 113), .ref (a0 0), .int v2, .int v3] (cf_Pre D K sz (wSB K h0 a0 o0))) (va_Qv (fun (_ : Unit) => True) (fun (_ : Unit) t => cf_At D (va_A (wSB K h0 a0 o0) sz) (wSB K h0 a0 r) t) (va_A (wSB K h0 a0 o0) sz)) 0 0 (va_A (wSB K h0 a0 o0) sz) := by
  refine cf_ofW (y := yJString_getBytes_ABIB) (As := [.ref (K 113), .ref (a0 0), .int v2, .int v3]) (WS := wSB K h0 a0 o0) (maxL := 4) (fun A => (va_Qv (fun (_ : Unit) => True) (fun (_ : Unit) t => cf_At D A (wSB K h0 a0 r) t) A)) (by decide) (Nat.le_of_ble_eq_true rfl) ?_
  intro p e s m below meth c A ls En hsz hA hP hD hE hS hl
  have C : (dc_C p s m (([.ref (K 113), .ref (a0 0), .int v2, .int v3] : List Value).toArray) meth c cJString_getBytes_ABIB 4 (Option.none : Option Jvm.ClassFile.FieldType) yJString_getBytes_ABIB ∧ cf_E D K A s s.heap ∧ ∀ q, s.heap.size ≤ q → A q) := ⟨En, hE, hA⟩
  exact bJString_getBytes_ABIB_S13_SB0_0 C v2 v3 o0 r h hP hD hS hl
set_option maxRecDepth 100000 in
theorem nAS_putStringAt_S13_0 (v1 : Int32) (o0 : cf_O) (r : cf_O) (h : fAS_putStringAt_S13_0 v1 o0 = some r) : phSB o0 ≤ phSB r := by
  have hm : phSB o0 ≤ phSB o0 := Nat.le_refl _
  obtain ⟨q_1, hq_1, h⟩ := op_b h
  obtain ⟨q_3, hq_3, h⟩ := op_b h
  have hm : phSB o0 ≤ phSB q_3 := Nat.le_trans hm (nJString_getBytes_ABIB_S13_SB0 _ _ _ _ hq_3)
  obtain rfl := Option.some.inj h
  exact hm
theorem nAS_putStringAt_S13 (v1 : Int32) (o0 : cf_O) (r : cf_O) (h : fAS_putStringAt_S13 v1 o0 = some r) : phSB o0 ≤ phSB r := nAS_putStringAt_S13_0  v1 o0 r h
set_option maxHeartbeats 4000000 in
set_option maxRecDepth 100000 in
theorem bAS_putStringAt_S13_0 {p : Program} {l : Launch} {e : Env} {s : State} {m : MethodId} {below : List Frame} {meth : Method} {c : Code} {A : Nat → Prop} {D : va_G} {K : Nat → ClassId} {h0 : Nat} {a0 : Nat → Nat} {AR : Array Value} (C : (dc_C p s m AR meth c cAS_putStringAt 3 (Option.none : Option Jvm.ClassFile.FieldType) yAS_putStringAt ∧ cf_E D K A s s.heap ∧ ∀ q, s.heap.size ≤ q → A q)) (v1 : Int32) (o0 : cf_O) (r : cf_O) (h : fAS_putStringAt_S13_0 v1 o0 = some r) {H : Heap} {locs : List Loc} {ls : Array Slot} (hP : va_P D vwCl (wSB K h0 a0 o0) H) (hD : va_D A (wSB K h0 a0 o0)) (hS : va_S A s.heap H locs) (hl : lv_has ls 3 [(0, .ref h0), (1, .int v1), (2, .ref (K 113))]) : W p l e ({ frames := 2, cells := 0, slots := 0, locals := 83 }) s m AR below meth c H locs 0 0 (MQ below (va_Qv (fun (_ : Unit) => True) (fun (_ : Unit) t => cf_At D A (wSB K h0 a0 r) t) A) AR s 0 0 A) (F0 m 0 ls []) := by
  obtain ⟨⟨hx, hb, hr, hts, hown, hlocks, hin, hml⟩, hE, hA⟩ := id C
  have hK := hE.k
  refine lv_aload_n hx hb dAS_putStringAt_0 rfl (lv_at hl 0 rfl) ?_
  refine lv_aload_n hx hb dAS_putStringAt_1 rfl (lv_at hl 2 rfl) ?_
  obtain ⟨q_1, hq_1, h⟩ := op_b h
  refine dc_callv (va_runU (As := [.ref (K 113)]) (rest := []) ⟨hx, hb, hml, hown, hts⟩ (mAS_inflateIfNeededFor_S13 l D K _ h0 a0 o0 _ hq_1) (cf_cwU (C := "java/lang/StringBuilder") 1 hts (cf_G1 wv_1618) rfl rfl rfl (hts _ wv_166) (hts _ wv_1615) (hts _ wv_2793) (va_Nw.use rfl (hE.n 32 rfl)) (hts _ wv_1617) (by decide +kernel) ⟨Nat.le_of_ble_eq_true rfl, Nat.le_of_ble_eq_true rfl⟩) (dc_preV hE hP hD hS hA rfl 0 rfl) rfl rfl hl.1 rfl (lv_room (Nat.le_of_ble_eq_true rfl)) dAS_putStringAt_2 ⟨Nat.le_of_ble_eq_true rfl, Nat.le_of_ble_eq_true rfl⟩) hP hD hS hA (fun H locs hP hD hS => ?_)
  refine lv_aload_n hx hb dAS_putStringAt_5 rfl (lv_at hl 2 rfl) ?_
  refine lv_aload_n hx hb dAS_putStringAt_6 rfl (lv_at hl 0 rfl) ?_
  refine va_get (D := D) (ci := 13) (v := .ref (a0 0)) (C := RSB) (T := TSB) (N := 4) hx hb hts inSB hown hK hP 0 rfl rfl 0 (by decide) (hts _ wv_453) (fun _ h9 => h9) rfl dAS_putStringAt_7 ?_
  refine lv_iload_n hx hb dAS_putStringAt_10 rfl (lv_at hl 1 rfl) ?_
  refine lv_aload_n hx hb dAS_putStringAt_11 rfl (lv_at hl 0 rfl) ?_
  refine va_get (D := D) (ci := 13) (v := .int (o0.1 1)) (C := RSB) (T := TSB) (N := 4) hx hb hts inSB hown hK hP 0 rfl rfl 1 (by decide) (hts _ wv_454) (fun _ h9 => h9) rfl dAS_putStringAt_12 ?_
  obtain ⟨q_3, hq_3, h⟩ := op_b h
  refine cf_callv (wc := wSB K h0 a0 o0) (wr := []) (va_runV (As := [.ref (a0 0), .int v1, .int (o0.1 1)]) (rest := []) ⟨hx, hb, hml, hown, hts⟩ (mJString_getBytes_ABIB_S13_SB0 l D K _ v1 (o0.1 1) h0 a0 o0 _ hq_3) (cwV 3 hts (cf_GV wv_1639 wv_1640 wv_1641 wv_168 wv_1642) rfl rfl rfl (by decide +kernel) ⟨Nat.le_of_ble_eq_true rfl, Nat.le_of_ble_eq_true rfl⟩) (cf_preO (wc := wSB K h0 a0 o0) (hE.s 13 rfl).2.1 hE hP hD hS hA [0, 1] rfl (by decide +kernel)) rfl rfl hl.1 rfl (lv_room (Nat.le_of_ble_eq_true rfl)) dAS_putStringAt_15 ⟨Nat.le_of_ble_eq_true rfl, Nat.le_of_ble_eq_true rfl⟩) hP hD hS hA [0, 1] [] rfl rfl (by decide +kernel) (by decide +kernel) (fun _ H locs hw_4 hP hD hS => ?_)
  have hP : va_P D vwCl (wSB K h0 a0 q_3) H := hP.sub [0, 1] rfl
  have hD : va_D A (wSB K h0 a0 q_3) := hD.sub [0, 1] (by decide +kernel) rfl
  obtain rfl := Option.some.inj h
  exact dc_vret hx hb hr hlocks rfl hP hD hS dAS_putStringAt_18
set_option maxRecDepth 100000 in
theorem mAS_putStringAt_S13 (l : Launch) (D : va_G) (K : Nat → ClassId) (sz : Nat) (v1 : Int32) (h0 : Nat) (a0 : Nat → Nat) (o0 : cf_O) (r : cf_O) (h : fAS_putStringAt_S13 v1 o0 = some r) : Met l yAS_putStringAt (Cond.code yAS_putStringAt cAS_putStringAt 3 (Option.none : Option Jvm.ClassFile.FieldType) :: cfB) ({ frames := 2, cells := 0, slots := 0, locals := 83 }) (va_Pc [.ref h0, .int v1, .ref (K 113)] (cf_Pre D K sz (wSB K h0 a0 o0))) (va_Qv (fun (_ : Unit) => True) (fun (_ : Unit) t => cf_At D (va_A (wSB K h0 a0 o0) sz) (wSB K h0 a0 r) t) (va_A (wSB K h0 a0 o0) sz)) 0 0 (va_A (wSB K h0 a0 o0) sz) := by
  refine cf_ofW (y := yAS_putStringAt) (As := [.ref h0, .int v1, .ref (K 113)]) (WS := wSB K h0 a0 o0) (maxL := 3) (fun A => (va_Qv (fun (_ : Unit) => True) (fun (_ : Unit) t => cf_At D A (wSB K h0 a0 r) t) A)) (by decide) (Nat.le_of_ble_eq_true rfl) ?_
  intro p e s m below meth c A ls En hsz hA hP hD hE hS hl
  have C : (dc_C p s m (([.ref h0, .int v1, .ref (K 113)] : List Value).toArray) meth c cAS_putStringAt 3 (Option.none : Option Jvm.ClassFile.FieldType) yAS_putStringAt ∧ cf_E D K A s s.heap ∧ ∀ q, s.heap.size ≤ q → A q) := ⟨En, hE, hA⟩
  exact bAS_putStringAt_S13_0 C v1 o0 r h hP hD hS hl
set_option maxRecDepth 100000 in
theorem nAS_appendS_S13_33 (v2 : Int32) (o0 : cf_O) (r : cf_O) (h : fAS_appendS_S13_33 v2 o0 = some r) : phSB o0 ≤ phSB r := by
  have hm : phSB o0 ≤ phSB o0 := Nat.le_refl _
  obtain ⟨x_1, ex_1, h⟩ := op_kx h
  obtain ⟨o_2, eo_2, h⟩ := op_kx h
  have hm : phSB o0 ≤ phSB o_2 := by rw [eo_2]; exact hm
  obtain rfl := Option.some.inj h
  exact hm
set_option maxRecDepth 100000 in
theorem nAS_appendS_S13_24 (v2 : Int32) (o0 : cf_O) (r : cf_O) (h : fAS_appendS_S13_24 v2 o0 = some r) : phSB o0 ≤ phSB r := by
  have hm : phSB o0 ≤ phSB o0 := Nat.le_refl _
  obtain ⟨q_1, hq_1, h⟩ := op_b h
  have hm : phSB o0 ≤ phSB q_1 := Nat.le_trans hm (nAS_putStringAt_S13 _ _ _ hq_1)
  exact Nat.le_trans hm (nAS_appendS_S13_33 _ _ _ h)
set_option maxRecDepth 100000 in
theorem nAS_appendS_S13_13 (s0 : Int32) (o0 : cf_O) (r : cf_O) (h : fAS_appendS_S13_13 s0 o0 = some r) : phSB o0 ≤ phSB r := by
  have hm : phSB o0 ≤ phSB o0 := Nat.le_refl _
  obtain ⟨x_1, ex_1, h⟩ := op_kx h
  obtain ⟨q_2, hq_2, h⟩ := op_b h
  have hm : phSB o0 ≤ phSB q_2 := Nat.le_trans hm (nAS_ensureCapacityInternal _ _ _ hq_2)
  exact Nat.le_trans hm (nAS_appendS_S13_24 _ _ _ h)
set_option maxRecDepth 100000 in
theorem nAS_appendS_S13_0 (o0 : cf_O) (r : cf_O) (h : fAS_appendS_S13_0 o0 = some r) : phSB o0 ≤ phSB r := by
  have hm : phSB o0 ≤ phSB o0 := Nat.le_refl _
  obtain ⟨q_1, hq_1, h⟩ := op_b h
  exact Nat.le_trans hm (nAS_appendS_S13_13 _ _ _ h)
theorem nAS_appendS_S13 (o0 : cf_O) (r : cf_O) (h : fAS_appendS_S13 o0 = some r) : phSB o0 ≤ phSB r := nAS_appendS_S13_0  o0 r h
set_option maxHeartbeats 4000000 in
set_option maxRecDepth 100000 in
theorem bAS_appendS_S13_33 {p : Program} {l : Launch} {e : Env} {s : State} {m : MethodId} {below : List Frame} {meth : Method} {c : Code} {A : Nat → Prop} {D : va_G} {K : Nat → ClassId} {h0 : Nat} {os : cf_O} {AR : Array Value} (C : (dc_C p s m AR meth c cAS_appendS 3 (Option.some (Jvm.ClassFile.FieldType.object "java/lang/AbstractStringBuilder")) yAS_appendS ∧ cf_E D K A s s.heap ∧ ∀ q, s.heap.size ≤ q → A q)) (v2 : Int32) (o0 : cf_O) (r : cf_O) (h : fAS_appendS_S13_33 v2 o0 = some r) {a0 : Nat → Nat} {H : Heap} {locs : List Loc} {ls : Array Slot} (hg : phSB os ≤ phSB o0) (hP : va_P D vwCl (wSB K h0 a0 o0) H) (hD : va_D A (wSB K h0 a0 o0)) (hS : va_S A s.heap H locs) (hl : lv_has ls 3 [(0, .ref h0), (2, .int v2)]) : W p l e ({ frames := 4, cells := (gC (phSB os) (phSB r)), slots := (gS (phSB os) (phSB r)), locals := 124 }) s m AR below meth c H locs (gC (phSB os) (phSB o0)) (gS (phSB os) (phSB o0)) (MQ below (va_Qr (fun (_ : Nat → Nat) => True) (fun (u : Nat → Nat) q t => cf_At D A (wSB K h0 u r) t ∧ q = h0) A) AR s (gC (phSB os) (phSB r)) (gS (phSB os) (phSB r)) A) (F0 m 33 ls []) := by
  obtain ⟨⟨hx, hb, hr, hts, hown, hlocks, hin, hml⟩, hE, hA⟩ := id C
  have hK := hE.k
  refine lv_aload_n hx hb dAS_appendS_33 rfl (lv_at hl 0 rfl) ?_
  refine lv_dup hx hb dAS_appendS_34 rfl ?_
  refine va_get (D := D) (ci := 13) (v := .int (o0.1 3)) (C := RSB) (T := TSB) (N := 4) hx hb hts inSB hown hK hP 0 rfl rfl 3 (by decide) (hts _ wv_457) (fun _ h9 => h9) rfl dAS_appendS_35 ?_
  refine lv_iload_n hx hb dAS_appendS_38 rfl (lv_at hl 1 rfl) ?_
  refine lv_iadd hx hb dAS_appendS_39 ?_
  refine lv_topi (fun x_1 ex_1 => ?_)
  have h := op_ks ex_1 h
  refine va_put (D := D) (ci := 13) (v := .int x_1) (ty := .int) (C := RSB) (T := TSB) (N := 4) hx hb hts inSB tySB tyokSB nmSB hown hK hP hD hS 0 rfl rfl 3 (by decide) (hts _ wv_457) (fun _ h9 => h9) rfl (by decide +kernel) rfl rfl (Nat.le_of_ble_eq_true rfl) dAS_appendS_40 (fun H locs hP hD hS => ?_)
  have hP : va_P D vwCl (wSB K h0 a0 (fp o0 3 x_1)) H := hP
  have hD : va_D A (wSB K h0 a0 (fp o0 3 x_1)) := hD
  obtain ⟨o_2, eo_2, h⟩ := op_kx h
  rw [← eo_2] at hP hD
  have hf_3 : phSB o_2 = phSB o0 := by rw [eo_2]; rfl
  refine W.widen (k := (gC (phSB os) (phSB o_2))) (n := (gS (phSB os) (phSB o_2))) (by rw [hf_3]; exact Nat.le_refl _) (by rw [hf_3]; exact Nat.le_refl _) ?_
  have hg : phSB os ≤ phSB o_2 := by rw [hf_3]; exact hg
  refine lv_aload_n hx hb dAS_appendS_43 rfl (lv_at hl 0 rfl) ?_
  obtain rfl := Option.some.inj h
  exact dc_aretG a0 hx hb hr ⟨_, rfl⟩ hlocks hP hD hS dAS_appendS_44
set_option maxHeartbeats 4000000 in
set_option maxRecDepth 100000 in
theorem bAS_appendS_S13_24 {p : Program} {l : Launch} {e : Env} {s : State} {m : MethodId} {below : List Frame} {meth : Method} {c : Code} {A : Nat → Prop} {D : va_G} {K : Nat → ClassId} {h0 : Nat} {os : cf_O} {AR : Array Value} (C : (dc_C p s m AR meth c cAS_appendS 3 (Option.some (Jvm.ClassFile.FieldType.object "java/lang/AbstractStringBuilder")) yAS_appendS ∧ cf_E D K A s s.heap ∧ ∀ q, s.heap.size ≤ q → A q)) (v2 : Int32) (o0 : cf_O) (r : cf_O) (h : fAS_appendS_S13_24 v2 o0 = some r) {a0 : Nat → Nat} {H : Heap} {locs : List Loc} {ls : Array Slot} (hg : phSB os ≤ phSB o0) (hP : va_P D vwCl (wSB K h0 a0 o0) H) (hD : va_D A (wSB K h0 a0 o0)) (hS : va_S A s.heap H locs) (hl : lv_has ls 3 [(0, .ref h0), (1, .ref (K 113)), (2, .int v2)]) : W p l e ({ frames := 4, cells := (gC (phSB os) (phSB r)), slots := (gS (phSB os) (phSB r)), locals := 124 }) s m AR below meth c H locs (gC (phSB os) (phSB o0)) (gS (phSB os) (phSB o0)) (MQ below (va_Qr (fun (_ : Nat → Nat) => True) (fun (u : Nat → Nat) q t => cf_At D A (wSB K h0 u r) t ∧ q = h0) A) AR s (gC (phSB os) (phSB r)) (gS (phSB os) (phSB r)) A) (F0 m 24 ls []) := by
  obtain ⟨⟨hx, hb, hr, hts, hown, hlocks, hin, hml⟩, hE, hA⟩ := id C
  have hK := hE.k
  refine lv_aload_n hx hb dAS_appendS_24 rfl (lv_at hl 0 rfl) ?_
  refine lv_aload_n hx hb dAS_appendS_25 rfl (lv_at hl 0 rfl) ?_
  refine va_get (D := D) (ci := 13) (v := .int (o0.1 3)) (C := RSB) (T := TSB) (N := 4) hx hb hts inSB hown hK hP 0 rfl rfl 3 (by decide) (hts _ wv_457) (fun _ h9 => h9) rfl dAS_appendS_26 ?_
  refine lv_aload_n hx hb dAS_appendS_29 rfl (lv_at hl 1 rfl) ?_
  obtain ⟨q_1, hq_1, h⟩ := op_b h
  have hgr_2 : phSB q_1 ≤ phSB r := nAS_appendS_S13_33 _ _ _ h
  have hg2_3 : phSB o0 ≤ phSB q_1 := nAS_putStringAt_S13 _ _ _ hq_1
  refine dc_callv (va_runU (As := [.int (o0.1 3), .ref (K 113)]) (rest := []) ⟨hx, hb, hml, hown, hts⟩ (mAS_putStringAt_S13 l D K _ (o0.1 3) h0 a0 o0 _ hq_1) (cf_cwU (C := "java/lang/StringBuilder") 2 hts (cf_G1 wv_1614) rfl rfl rfl (hts _ wv_166) (hts _ wv_1611) (hts _ wv_2792) (va_Nw.use rfl (hE.n 31 rfl)) (hts _ wv_1613) (by decide +kernel) ⟨Nat.le_of_ble_eq_true rfl, Nat.le_of_ble_eq_true rfl⟩) (dc_preV hE hP hD hS hA rfl 0 rfl) rfl rfl hl.1 rfl (lv_room (Nat.le_of_ble_eq_true rfl)) dAS_appendS_30 ⟨gC_le (Nat.le_trans hg2_3 hgr_2), gS_le (Nat.le_trans hg2_3 hgr_2)⟩) hP hD hS hA (fun H locs hP hD hS => ?_)
  refine W.widen (k := (gC (phSB os) (phSB q_1))) (n := (gS (phSB os) (phSB q_1))) (gC_le hg2_3) (gS_le hg2_3) ?_
  have hg : phSB os ≤ phSB q_1 := Nat.le_trans hg hg2_3
  exact bAS_appendS_S13_33 C _ _ _ h hg hP hD hS (lv_sub hl [0, 2] rfl)
set_option maxHeartbeats 4000000 in
set_option maxRecDepth 100000 in
theorem bAS_appendS_S13_13 {p : Program} {l : Launch} {e : Env} {s : State} {m : MethodId} {below : List Frame} {meth : Method} {c : Code} {A : Nat → Prop} {D : va_G} {K : Nat → ClassId} {h0 : Nat} {os : cf_O} {AR : Array Value} (C : (dc_C p s m AR meth c cAS_appendS 3 (Option.some (Jvm.ClassFile.FieldType.object "java/lang/AbstractStringBuilder")) yAS_appendS ∧ cf_E D K A s s.heap ∧ ∀ q, s.heap.size ≤ q → A q)) (s0 : Int32) (o0 : cf_O) (r : cf_O) (h : fAS_appendS_S13_13 s0 o0 = some r) {a0 : Nat → Nat} {H : Heap} {locs : List Loc} {ls : Array Slot} (hg : phSB os ≤ phSB o0) (hP : va_P D vwCl (wSB K h0 a0 o0) H) (hD : va_D A (wSB K h0 a0 o0)) (hS : va_S A s.heap H locs) (hl : lv_has ls 3 [(0, .ref h0), (1, .ref (K 113))]) : W p l e ({ frames := 4, cells := (gC (phSB os) (phSB r)), slots := (gS (phSB os) (phSB r)), locals := 124 }) s m AR below meth c H locs (gC (phSB os) (phSB o0)) (gS (phSB os) (phSB o0)) (MQ below (va_Qr (fun (_ : Nat → Nat) => True) (fun (u : Nat → Nat) q t => cf_At D A (wSB K h0 u r) t ∧ q = h0) A) AR s (gC (phSB os) (phSB r)) (gS (phSB os) (phSB r)) A) (F0 m 13 ls [.int s0]) := by
  obtain ⟨⟨hx, hb, hr, hts, hown, hlocks, hin, hml⟩, hE, hA⟩ := id C
  have hK := hE.k
  refine lv_istore_n (lv' := [(2, .int s0), (0, .ref h0), (1, .ref (K 113))]) hx hb dAS_appendS_13 rfl hl (by decide) rfl (fun ls hl => ?_)
  refine lv_aload_n hx hb dAS_appendS_14 rfl (lv_at hl 1 rfl) ?_
  refine lv_aload_n hx hb dAS_appendS_15 rfl (lv_at hl 1 rfl) ?_
  refine va_get (D := D) (ci := 13) (v := .int (o0.1 3)) (C := RSB) (T := TSB) (N := 4) hx hb hts inSB hown hK hP 0 rfl rfl 3 (by decide) (hts _ wv_457) (fun _ h9 => h9) rfl dAS_appendS_16 ?_
  refine lv_iload_n hx hb dAS_appendS_19 rfl (lv_at hl 0 rfl) ?_
  refine lv_iadd hx hb dAS_appendS_20 ?_
  refine lv_topi (fun x_1 ex_1 => ?_)
  have h := op_ks ex_1 h
  obtain ⟨q_2, hq_2, h⟩ := op_b h
  have hgr_3 : phSB q_2 ≤ phSB r := nAS_appendS_S13_24 _ _ _ h
  have hg2_4 : phSB o0 ≤ phSB q_2 := nAS_ensureCapacityInternal _ _ _ hq_2
  refine cf_callv (wc := wSB K h0 a0 o0) (wr := []) (va_runU (As := [.int x_1]) (rest := []) ⟨hx, hb, hml, hown, hts⟩ (mAS_ensureCapacityInternal l D K _ x_1 h0 a0 o0 _ hq_2) (cf_cwU (C := "java/lang/StringBuilder") 1 hts (cf_G1 wv_1568) rfl rfl rfl (hts _ wv_166) (hts _ wv_1565) (hts _ wv_2790) (va_Nw.use rfl (hE.n 29 rfl)) (hts _ wv_1567) (by decide +kernel) ⟨Nat.le_of_ble_eq_true rfl, Nat.le_of_ble_eq_true rfl⟩) (cf_preV (wc := wSB K h0 a0 o0) hE hP hD hS hA rfl 0 rfl [0, 1] rfl (by decide +kernel)) rfl rfl hl.1 rfl (lv_room (Nat.le_of_ble_eq_true rfl)) dAS_appendS_21 ⟨Nat.le_trans (gC_add hg hg2_4) (gC_le hgr_3), Nat.le_trans (gS_add hg hg2_4) (gS_le hgr_3)⟩) hP hD hS hA [0, 1] [] rfl rfl (by decide +kernel) (by decide +kernel) (fun a0_6 H locs hw_5 hP hD hS => ?_)
  have hP : va_P D vwCl (wSB K h0 a0_6 q_2) H := hP.sub [0, 1] rfl
  have hD : va_D A (wSB K h0 a0_6 q_2) := hD.sub [0, 1] (by decide +kernel) rfl
  refine W.widen (k := (gC (phSB os) (phSB q_2))) (n := (gS (phSB os) (phSB q_2))) (gC_add hg hg2_4) (gS_add hg hg2_4) ?_
  have hg : phSB os ≤ phSB q_2 := Nat.le_trans hg hg2_4
  exact bAS_appendS_S13_24 C _ _ _ h hg hP hD hS (lv_sub hl [1, 2, 0] rfl)
set_option maxHeartbeats 4000000 in
set_option maxRecDepth 100000 in
theorem bAS_appendS_S13_0 {p : Program} {l : Launch} {e : Env} {s : State} {m : MethodId} {below : List Frame} {meth : Method} {c : Code} {A : Nat → Prop} {D : va_G} {K : Nat → ClassId} {h0 : Nat} {os : cf_O} {AR : Array Value} (C : (dc_C p s m AR meth c cAS_appendS 3 (Option.some (Jvm.ClassFile.FieldType.object "java/lang/AbstractStringBuilder")) yAS_appendS ∧ cf_E D K A s s.heap ∧ ∀ q, s.heap.size ≤ q → A q)) (o0 : cf_O) (r : cf_O) (h : fAS_appendS_S13_0 o0 = some r) {a0 : Nat → Nat} {H : Heap} {locs : List Loc} {ls : Array Slot} (hg : phSB os ≤ phSB o0) (hP : va_P D vwCl (wSB K h0 a0 o0) H) (hD : va_D A (wSB K h0 a0 o0)) (hS : va_S A s.heap H locs) (hl : lv_has ls 3 [(0, .ref h0), (1, .ref (K 113))]) : W p l e ({ frames := 4, cells := (gC (phSB os) (phSB r)), slots := (gS (phSB os) (phSB r)), locals := 124 }) s m AR below meth c H locs (gC (phSB os) (phSB o0)) (gS (phSB os) (phSB o0)) (MQ below (va_Qr (fun (_ : Nat → Nat) => True) (fun (u : Nat → Nat) q t => cf_At D A (wSB K h0 u r) t ∧ q = h0) A) AR s (gC (phSB os) (phSB r)) (gS (phSB os) (phSB r)) A) (F0 m 0 ls []) := by
  obtain ⟨⟨hx, hb, hr, hts, hown, hlocks, hin, hml⟩, hE, hA⟩ := id C
  have hK := hE.k
  refine lv_aload_n hx hb dAS_appendS_0 rfl (lv_at hl 1 rfl) ?_
  refine lv_ifnonnull (tgt := 9) hx hb dAS_appendS_1 (by decide) ?_
  refine lv_aload_n hx hb dAS_appendS_9 rfl (lv_at hl 1 rfl) ?_
  obtain ⟨q_1, hq_1, h⟩ := op_b h
  have hgr_2 : phSB o0 ≤ phSB r := nAS_appendS_S13_13 _ _ _ h
  refine cf_calli (wc := []) (wr := wSB K h0 a0 o0) (va_runV (As := []) (rest := []) ⟨hx, hb, hml, hown, hts⟩ (mJString_length__S13 l D K _ _ hq_1) (cwV 0 hts (cf_GV wv_1610 wv_757 wv_758 wv_168 wv_759) rfl rfl rfl (by decide +kernel) ⟨Nat.le_of_ble_eq_true rfl, Nat.le_of_ble_eq_true rfl⟩) (cf_preO (wc := []) (hE.s 13 rfl).2.1 hE hP hD hS hA [] rfl (by decide +kernel)) rfl rfl hl.1 rfl (lv_room (Nat.le_of_ble_eq_true rfl)) dAS_appendS_10 ⟨gC_le hgr_2, gS_le hgr_2⟩) hP hD hS hA [] [0, 1] rfl rfl (by decide +kernel) (by decide +kernel) (fun r_4 _ H locs hw_5 hP hD hS => ?_)
  subst r_4
  have hP : va_P D vwCl (wSB K h0 a0 o0) H := hP.sub [0, 1] rfl
  have hD : va_D A (wSB K h0 a0 o0) := hD.sub [0, 1] (by decide +kernel) rfl
  refine W.widen (k := (gC (phSB os) (phSB o0))) (n := (gS (phSB os) (phSB o0))) (Nat.le_refl _) (Nat.le_refl _) ?_
  exact bAS_appendS_S13_13 C _ _ _ h hg hP hD hS (lv_sub hl [0, 1] rfl)
set_option maxRecDepth 100000 in
theorem mAS_appendS_S13 (l : Launch) (D : va_G) (K : Nat → ClassId) (sz : Nat) (h0 : Nat) (a0 : Nat → Nat) (o0 : cf_O) (r : cf_O) (h : fAS_appendS_S13 o0 = some r) : Met l yAS_appendS (Cond.code yAS_appendS cAS_appendS 3 (Option.some (Jvm.ClassFile.FieldType.object "java/lang/AbstractStringBuilder")) :: cfB) ({ frames := 4, cells := (gC (phSB o0) (phSB r)), slots := (gS (phSB o0) (phSB r)), locals := 124 }) (va_Pc [.ref h0, .ref (K 113)] (cf_Pre D K sz (wSB K h0 a0 o0))) (va_Qr (fun (_ : Nat → Nat) => True) (fun (u : Nat → Nat) q t => cf_At D (va_A (wSB K h0 a0 o0) sz) (wSB K h0 u r) t ∧ q = h0) (va_A (wSB K h0 a0 o0) sz)) (gC (phSB o0) (phSB r)) (gS (phSB o0) (phSB r)) (va_A (wSB K h0 a0 o0) sz) := by
  refine cf_ofW (y := yAS_appendS) (As := [.ref h0, .ref (K 113)]) (WS := wSB K h0 a0 o0) (maxL := 3) (fun A => (va_Qr (fun (_ : Nat → Nat) => True) (fun (u : Nat → Nat) q t => cf_At D A (wSB K h0 u r) t ∧ q = h0) A)) (by decide) (Nat.le_of_ble_eq_true rfl) ?_
  intro p e s m below meth c A ls En hsz hA hP hD hE hS hl
  have C : (dc_C p s m (([.ref h0, .ref (K 113)] : List Value).toArray) meth c cAS_appendS 3 (Option.some (Jvm.ClassFile.FieldType.object "java/lang/AbstractStringBuilder")) yAS_appendS ∧ cf_E D K A s s.heap ∧ ∀ q, s.heap.size ≤ q → A q) := ⟨En, hE, hA⟩
  refine W.widen (k := gC (phSB o0) (phSB o0)) (n := gS (phSB o0) (phSB o0)) (Nat.zero_le _) (Nat.zero_le _) ?_
  exact bAS_appendS_S13_0 C o0 r h (Nat.le_refl _) hP hD hS hl
set_option maxRecDepth 100000 in
theorem nSB_appendS_S13_5 (o0 : cf_O) (r : cf_O) (h : fSB_appendS_S13_5 o0 = some r) : phSB o0 ≤ phSB r := by
  have hm : phSB o0 ≤ phSB o0 := Nat.le_refl _
  obtain rfl := Option.some.inj h
  exact hm
set_option maxRecDepth 100000 in
theorem nSB_appendS_S13_0 (o0 : cf_O) (r : cf_O) (h : fSB_appendS_S13_0 o0 = some r) : phSB o0 ≤ phSB r := by
  have hm : phSB o0 ≤ phSB o0 := Nat.le_refl _
  obtain ⟨q_1, hq_1, h⟩ := op_b h
  have hm : phSB o0 ≤ phSB q_1 := Nat.le_trans hm (nAS_appendS_S13 _ _ hq_1)
  exact Nat.le_trans hm (nSB_appendS_S13_5 _ _ h)
theorem nSB_appendS_S13 (o0 : cf_O) (r : cf_O) (h : fSB_appendS_S13 o0 = some r) : phSB o0 ≤ phSB r := nSB_appendS_S13_0  o0 r h
set_option maxHeartbeats 4000000 in
set_option maxRecDepth 100000 in
theorem bSB_appendS_S13_5 {p : Program} {l : Launch} {e : Env} {s : State} {m : MethodId} {below : List Frame} {meth : Method} {c : Code} {A : Nat → Prop} {D : va_G} {K : Nat → ClassId} {h0 : Nat} {os : cf_O} {AR : Array Value} (C : (dc_C p s m AR meth c cSB_appendS 2 (Option.some (Jvm.ClassFile.FieldType.object "java/lang/StringBuilder")) ySB_appendS ∧ cf_E D K A s s.heap ∧ ∀ q, s.heap.size ≤ q → A q)) (o0 : cf_O) (r : cf_O) (h : fSB_appendS_S13_5 o0 = some r) {a0 : Nat → Nat} {H : Heap} {locs : List Loc} {ls : Array Slot} (hg : phSB os ≤ phSB o0) (hP : va_P D vwCl (wSB K h0 a0 o0) H) (hD : va_D A (wSB K h0 a0 o0)) (hS : va_S A s.heap H locs) (hl : lv_has ls 2 [(0, .ref h0)]) : W p l e ({ frames := 5, cells := (gC (phSB os) (phSB r)), slots := (gS (phSB os) (phSB r)), locals := 146 }) s m AR below meth c H locs (gC (phSB os) (phSB o0)) (gS (phSB os) (phSB o0)) (MQ below (va_Qr (fun (_ : Nat → Nat) => True) (fun (u : Nat → Nat) q t => cf_At D A (wSB K h0 u r) t ∧ q = h0) A) AR s (gC (phSB os) (phSB r)) (gS (phSB os) (phSB r)) A) (F0 m 5 ls [.ref h0]) := by
  obtain ⟨⟨hx, hb, hr, hts, hown, hlocks, hin, hml⟩, hE, hA⟩ := id C
  have hK := hE.k
  refine lv_pop hx hb dSB_appendS_5 rfl ?_
  refine lv_aload_n hx hb dSB_appendS_6 rfl (lv_at hl 0 rfl) ?_
  obtain rfl := Option.some.inj h
  exact dc_aretG a0 hx hb hr ⟨_, rfl⟩ hlocks hP hD hS dSB_appendS_7
set_option maxHeartbeats 4000000 in
set_option maxRecDepth 100000 in
theorem bSB_appendS_S13_0 {p : Program} {l : Launch} {e : Env} {s : State} {m : MethodId} {below : List Frame} {meth : Method} {c : Code} {A : Nat → Prop} {D : va_G} {K : Nat → ClassId} {h0 : Nat} {os : cf_O} {AR : Array Value} (C : (dc_C p s m AR meth c cSB_appendS 2 (Option.some (Jvm.ClassFile.FieldType.object "java/lang/StringBuilder")) ySB_appendS ∧ cf_E D K A s s.heap ∧ ∀ q, s.heap.size ≤ q → A q)) (o0 : cf_O) (r : cf_O) (h : fSB_appendS_S13_0 o0 = some r) {a0 : Nat → Nat} {H : Heap} {locs : List Loc} {ls : Array Slot} (hg : phSB os ≤ phSB o0) (hP : va_P D vwCl (wSB K h0 a0 o0) H) (hD : va_D A (wSB K h0 a0 o0)) (hS : va_S A s.heap H locs) (hl : lv_has ls 2 [(0, .ref h0), (1, .ref (K 113))]) : W p l e ({ frames := 5, cells := (gC (phSB os) (phSB r)), slots := (gS (phSB os) (phSB r)), locals := 146 }) s m AR below meth c H locs (gC (phSB os) (phSB o0)) (gS (phSB os) (phSB o0)) (MQ below (va_Qr (fun (_ : Nat → Nat) => True) (fun (u : Nat → Nat) q t => cf_At D A (wSB K h0 u r) t ∧ q = h0) A) AR s (gC (phSB os) (phSB r)) (gS (phSB os) (phSB r)) A) (F0 m 0 ls []) := by
  obtain ⟨⟨hx, hb, hr, hts, hown, hlocks, hin, hml⟩, hE, hA⟩ := id C
  have hK := hE.k
  refine lv_aload_n hx hb dSB_appendS_0 rfl (lv_at hl 0 rfl) ?_
  refine lv_aload_n hx hb dSB_appendS_1 rfl (lv_at hl 1 rfl) ?_
  obtain ⟨q_1, hq_1, h⟩ := op_b h
  have hgr_2 : phSB q_1 ≤ phSB r := nSB_appendS_S13_5 _ _ h
  have hg2_3 : phSB o0 ≤ phSB q_1 := nAS_appendS_S13 _ _ hq_1
  refine cf_callR (wc := wSB K h0 a0 o0) (wr := []) (va_runSU (hK.1 13 _ rfl).2 (As := [.ref (K 113)]) (rest := []) ⟨hx, hb, hml, hown, hts⟩ (mAS_appendS_S13 l D K _ h0 a0 o0 _ hq_1) (cf_cwSU 1 hts (cf_G1 wv_1560) rfl rfl rfl (hts _ wv_1558) (hts _ wv_2788) (hts _ wv_466) (hts _ wv_1559) (hts _ wv_166) (by decide +kernel) ⟨Nat.le_of_ble_eq_true rfl, Nat.le_of_ble_eq_true rfl⟩) (cf_preV (wc := wSB K h0 a0 o0) hE hP hD hS hA rfl 0 rfl [0, 1] rfl (by decide +kernel)) rfl rfl hl.1 rfl (lv_room (Nat.le_of_ble_eq_true rfl)) dSB_appendS_2 ⟨Nat.le_trans (gC_add hg hg2_3) (gC_le hgr_2), Nat.le_trans (gS_add hg hg2_3) (gS_le hgr_2)⟩) hP hD hS hA [0, 1] [] rfl rfl (by decide +kernel) (by decide +kernel) (fun a0_5 H locs hw_4 hP hD hS => ?_)
  have hP : va_P D vwCl (wSB K h0 a0_5 q_1) H := hP.sub [0, 1] rfl
  have hD : va_D A (wSB K h0 a0_5 q_1) := hD.sub [0, 1] (by decide +kernel) rfl
  refine W.widen (k := (gC (phSB os) (phSB q_1))) (n := (gS (phSB os) (phSB q_1))) (gC_add hg hg2_3) (gS_add hg hg2_3) ?_
  have hg : phSB os ≤ phSB q_1 := Nat.le_trans hg hg2_3
  exact bSB_appendS_S13_5 C _ _ h hg hP hD hS (lv_sub hl [0] rfl)
set_option maxRecDepth 100000 in
theorem mSB_appendS_S13 (l : Launch) (D : va_G) (K : Nat → ClassId) (sz : Nat) (h0 : Nat) (a0 : Nat → Nat) (o0 : cf_O) (r : cf_O) (h : fSB_appendS_S13 o0 = some r) : Met l ySB_appendS (Cond.code ySB_appendS cSB_appendS 2 (Option.some (Jvm.ClassFile.FieldType.object "java/lang/StringBuilder")) :: cfB) ({ frames := 5, cells := (gC (phSB o0) (phSB r)), slots := (gS (phSB o0) (phSB r)), locals := 146 }) (va_Pc [.ref h0, .ref (K 113)] (cf_Pre D K sz (wSB K h0 a0 o0))) (va_Qr (fun (_ : Nat → Nat) => True) (fun (u : Nat → Nat) q t => cf_At D (va_A (wSB K h0 a0 o0) sz) (wSB K h0 u r) t ∧ q = h0) (va_A (wSB K h0 a0 o0) sz)) (gC (phSB o0) (phSB r)) (gS (phSB o0) (phSB r)) (va_A (wSB K h0 a0 o0) sz) := by
  refine cf_ofW (y := ySB_appendS) (As := [.ref h0, .ref (K 113)]) (WS := wSB K h0 a0 o0) (maxL := 2) (fun A => (va_Qr (fun (_ : Nat → Nat) => True) (fun (u : Nat → Nat) q t => cf_At D A (wSB K h0 u r) t ∧ q = h0) A)) (by decide) (Nat.le_of_ble_eq_true rfl) ?_
  intro p e s m below meth c A ls En hsz hA hP hD hE hS hl
  have C : (dc_C p s m (([.ref h0, .ref (K 113)] : List Value).toArray) meth c cSB_appendS 2 (Option.some (Jvm.ClassFile.FieldType.object "java/lang/StringBuilder")) ySB_appendS ∧ cf_E D K A s s.heap ∧ ∀ q, s.heap.size ≤ q → A q) := ⟨En, hE, hA⟩
  refine W.widen (k := gC (phSB o0) (phSB o0)) (n := gS (phSB o0) (phSB o0)) (Nat.zero_le _) (Nat.zero_le _) ?_
  exact bSB_appendS_S13_0 C o0 r h (Nat.le_refl _) hP hD hS hl
set_option maxHeartbeats 4000000 in
set_option maxRecDepth 100000 in
theorem bJString_coder__S15_14 {p : Program} {l : Launch} {e : Env} {s : State} {m : MethodId} {below : List Frame} {meth : Method} {c : Code} {A : Nat → Prop} {D : va_G} {K : Nat → ClassId} {AR : Array Value} (C : (dc_C p s m AR meth c cJString_coder_ 1 (Option.some Jvm.ClassFile.FieldType.byte) yJString_coder_ ∧ cf_E D K A s s.heap ∧ ∀ q, s.heap.size ≤ q → A q)) (s0 : Int32) (r : Int32) (h : fJString_coder__S15_14 s0 = some r) {H : Heap} {locs : List Loc} {ls : Array Slot} (hP : va_P D vwCl ([]) H) (hD : va_D A ([])) (hS : va_S A s.heap H locs) (hl : lv_has ls 1 []) : W p l e ({ frames := 0, cells := 0, slots := 0, locals := 0 }) s m AR below meth c H locs 0 0 (MQ below (va_Qi (fun (x : Int32) (_ : Unit) => x = r) (fun (_ : Unit) t => cf_At D A ([]) t) A) AR s 0 0 A) (F0 m 14 ls [.int s0]) := by
  obtain ⟨⟨hx, hb, hr, hts, hown, hlocks, hin, hml⟩, hE, hA⟩ := id C
  have hK := hE.k
  obtain ⟨hz_1, h⟩ := op_w h
  obtain rfl := Option.some.inj h
  exact dc_zretn hx hb hr (op_nb hz_1) hlocks rfl hP hD hS dJString_coder__14
set_option maxHeartbeats 4000000 in
set_option maxRecDepth 100000 in
theorem bJString_coder__S15_0 {p : Program} {l : Launch} {e : Env} {s : State} {m : MethodId} {below : List Frame} {meth : Method} {c : Code} {A : Nat → Prop} {D : va_G} {K : Nat → ClassId} {AR : Array Value} (C : (dc_C p s m AR meth c cJString_coder_ 1 (Option.some Jvm.ClassFile.FieldType.byte) yJString_coder_ ∧ cf_E D K A s s.heap ∧ ∀ q, s.heap.size ≤ q → A q)) (r : Int32) (h : fJString_coder__S15_0 = some r) {H : Heap} {locs : List Loc} {ls : Array Slot} (hP : va_P D vwCl ([]) H) (hD : va_D A ([])) (hS : va_S A s.heap H locs) (hl : lv_has ls 1 [(0, .ref (K 115))]) : W p l e ({ frames := 0, cells := 0, slots := 0, locals := 0 }) s m AR below meth c H locs 0 0 (MQ below (va_Qi (fun (x : Int32) (_ : Unit) => x = r) (fun (_ : Unit) t => cf_At D A ([]) t) A) AR s 0 0 A) (F0 m 0 ls []) := by
  obtain ⟨⟨hx, hb, hr, hts, hown, hlocks, hin, hml⟩, hE, hA⟩ := id C
  have hK := hE.k
  refine va_gets hx hb hE.2.2.2.2.2.2.1 hS hown (hts _ wv_764) (fun _ h9 => h9) dJString_coder__0 ?_
  refine lv_if_eq (tgt := 13) hx hb dJString_coder__3 (by decide) (fun c_1 => absurd c_1 (by decide)) (fun _ => ?_)
  refine lv_aload_n hx hb dJString_coder__6 rfl (lv_at hl 0 rfl) ?_
  refine vk_getf hx hb (hE.s 15 rfl).2.2.1 hS hown (hts _ wv_1736) (fun _ h9 => h9) dJString_coder__7 ?_
  refine lv_goto (tgt := 14) hx hb dJString_coder__10 (by decide) ?_
  exact bJString_coder__S15_14 C _ _ h hP hD hS (lv_sub hl [] rfl)
set_option maxRecDepth 100000 in
theorem mJString_coder__S15 (l : Launch) (D : va_G) (K : Nat → ClassId) (sz : Nat) (r : Int32) (h : fJString_coder__S15 = some r) : Met l yJString_coder_ (Cond.code yJString_coder_ cJString_coder_ 1 (Option.some Jvm.ClassFile.FieldType.byte) :: cfB) ({ frames := 0, cells := 0, slots := 0, locals := 0 }) (va_Pc [.ref (K 115)] (cf_Pre D K sz ([]))) (va_Qi (fun (x : Int32) (_ : Unit) => x = r) (fun (_ : Unit) t => cf_At D (va_A ([]) sz) ([]) t) (va_A ([]) sz)) 0 0 (va_A ([]) sz) := by
  refine cf_ofW (y := yJString_coder_) (As := [.ref (K 115)]) (WS := []) (maxL := 1) (fun A => (va_Qi (fun (x : Int32) (_ : Unit) => x = r) (fun (_ : Unit) t => cf_At D A ([]) t) A)) (by decide) (Nat.le_of_ble_eq_true rfl) ?_
  intro p e s m below meth c A ls En hsz hA hP hD hE hS hl
  have C : (dc_C p s m (([.ref (K 115)] : List Value).toArray) meth c cJString_coder_ 1 (Option.some Jvm.ClassFile.FieldType.byte) yJString_coder_ ∧ cf_E D K A s s.heap ∧ ∀ q, s.heap.size ≤ q → A q) := ⟨En, hE, hA⟩
  exact bJString_coder__S15_0 C r h hP hD hS hl
set_option maxHeartbeats 4000000 in
set_option maxRecDepth 100000 in
theorem bJString_length__S15_0 {p : Program} {l : Launch} {e : Env} {s : State} {m : MethodId} {below : List Frame} {meth : Method} {c : Code} {A : Nat → Prop} {D : va_G} {K : Nat → ClassId} {AR : Array Value} (C : (dc_C p s m AR meth c cJString_length_ 1 (Option.some Jvm.ClassFile.FieldType.int) yJString_length_ ∧ cf_E D K A s s.heap ∧ ∀ q, s.heap.size ≤ q → A q)) (r : Int32) (h : fJString_length__S15_0 = some r) {H : Heap} {locs : List Loc} {ls : Array Slot} (hP : va_P D vwCl ([]) H) (hD : va_D A ([])) (hS : va_S A s.heap H locs) (hl : lv_has ls 1 [(0, .ref (K 115))]) : W p l e ({ frames := 1, cells := 0, slots := 0, locals := 20 }) s m AR below meth c H locs 0 0 (MQ below (va_Qi (fun (x : Int32) (_ : Unit) => x = r) (fun (_ : Unit) t => cf_At D A ([]) t) A) AR s 0 0 A) (F0 m 0 ls []) := by
  obtain ⟨⟨hx, hb, hr, hts, hown, hlocks, hin, hml⟩, hE, hA⟩ := id C
  have hK := hE.k
  refine lv_aload_n hx hb dJString_length__0 rfl (lv_at hl 0 rfl) ?_
  refine vk_getf hx hb (hE.s 15 rfl).2.2.2.1 hS hown (hts _ wv_1735) (fun _ h9 => h9) dJString_length__1 ?_
  refine va_tlen (v := 2) hx hb (hE.s 15 rfl).2.2.2.2 hS rfl dJString_length__4 ?_
  refine lv_aload_n hx hb dJString_length__5 rfl (lv_at hl 0 rfl) ?_
  obtain ⟨q_1, hq_1, h⟩ := op_b h
  refine cf_calli (wc := []) (wr := []) (va_runV (As := []) (rest := [.int 2]) ⟨hx, hb, hml, hown, hts⟩ (mJString_coder__S15 l D K _ _ hq_1) (cwV 0 hts (cf_GV wv_760 wv_761 wv_762 wv_168 wv_763) rfl rfl rfl (by decide +kernel) ⟨Nat.le_of_ble_eq_true rfl, Nat.le_of_ble_eq_true rfl⟩) (cf_preO (wc := []) (hE.s 15 rfl).2.1 hE hP hD hS hA [] rfl (by decide +kernel)) rfl rfl hl.1 rfl (lv_room (Nat.le_of_ble_eq_true rfl)) dJString_length__6 ⟨Nat.le_of_ble_eq_true rfl, Nat.le_of_ble_eq_true rfl⟩) hP hD hS hA [] [] rfl rfl (by decide +kernel) (by decide +kernel) (fun r_2 _ H locs hw_3 hP hD hS => ?_)
  subst r_2
  have hP : va_P D vwCl ([]) H := hP.sub [] rfl
  have hD : va_D A ([]) := hD.sub [] (by decide +kernel) rfl
  refine lv_ishr hx hb dJString_length__9 ?_
  refine lv_topi (fun x_4 ex_4 => ?_)
  have h := op_ks ex_4 h
  obtain rfl := Option.some.inj h
  exact dc_iret hx hb hr hlocks rfl hP hD hS dJString_length__10
set_option maxRecDepth 100000 in
theorem mJString_length__S15 (l : Launch) (D : va_G) (K : Nat → ClassId) (sz : Nat) (r : Int32) (h : fJString_length__S15 = some r) : Met l yJString_length_ (Cond.code yJString_length_ cJString_length_ 1 (Option.some Jvm.ClassFile.FieldType.int) :: cfB) ({ frames := 1, cells := 0, slots := 0, locals := 20 }) (va_Pc [.ref (K 115)] (cf_Pre D K sz ([]))) (va_Qi (fun (x : Int32) (_ : Unit) => x = r) (fun (_ : Unit) t => cf_At D (va_A ([]) sz) ([]) t) (va_A ([]) sz)) 0 0 (va_A ([]) sz) := by
  refine cf_ofW (y := yJString_length_) (As := [.ref (K 115)]) (WS := []) (maxL := 1) (fun A => (va_Qi (fun (x : Int32) (_ : Unit) => x = r) (fun (_ : Unit) t => cf_At D A ([]) t) A)) (by decide) (Nat.le_of_ble_eq_true rfl) ?_
  intro p e s m below meth c A ls En hsz hA hP hD hE hS hl
  have C : (dc_C p s m (([.ref (K 115)] : List Value).toArray) meth c cJString_length_ 1 (Option.some Jvm.ClassFile.FieldType.int) yJString_length_ ∧ cf_E D K A s s.heap ∧ ∀ q, s.heap.size ≤ q → A q) := ⟨En, hE, hA⟩
  exact bJString_length__S15_0 C r h hP hD hS hl
set_option maxHeartbeats 4000000 in
set_option maxRecDepth 100000 in
theorem bAS_inflateIfNeededFor_S15_21 {p : Program} {l : Launch} {e : Env} {s : State} {m : MethodId} {below : List Frame} {meth : Method} {c : Code} {A : Nat → Prop} {D : va_G} {K : Nat → ClassId} {h0 : Nat} {a0 : Nat → Nat} {AR : Array Value} (C : (dc_C p s m AR meth c cAS_inflateIfNeededFor 2 (Option.none : Option Jvm.ClassFile.FieldType) yAS_inflateIfNeededFor ∧ cf_E D K A s s.heap ∧ ∀ q, s.heap.size ≤ q → A q)) (o0 : cf_O) (r : Unit) (h : fAS_inflateIfNeededFor_S15_21 o0 = some r) {H : Heap} {locs : List Loc} {ls : Array Slot} (hP : va_P D vwCl (wSB K h0 a0 o0) H) (hD : va_D A (wSB K h0 a0 o0)) (hS : va_S A s.heap H locs) (hl : lv_has ls 2 []) : W p l e ({ frames := 1, cells := 0, slots := 0, locals := 20 }) s m AR below meth c H locs 0 0 (MQ below (va_Qv (fun (_ : Unit) => True) (fun (_ : Unit) t => cf_At D A (wSB K h0 a0 o0) t) A) AR s 0 0 A) (F0 m 21 ls []) := by
  obtain ⟨⟨hx, hb, hr, hts, hown, hlocks, hin, hml⟩, hE, hA⟩ := id C
  have hK := hE.k
  obtain rfl := Option.some.inj h
  exact dc_vret hx hb hr hlocks rfl hP hD hS dAS_inflateIfNeededFor_21
set_option maxHeartbeats 4000000 in
set_option maxRecDepth 100000 in
theorem bAS_inflateIfNeededFor_S15_0 {p : Program} {l : Launch} {e : Env} {s : State} {m : MethodId} {below : List Frame} {meth : Method} {c : Code} {A : Nat → Prop} {D : va_G} {K : Nat → ClassId} {h0 : Nat} {a0 : Nat → Nat} {AR : Array Value} (C : (dc_C p s m AR meth c cAS_inflateIfNeededFor 2 (Option.none : Option Jvm.ClassFile.FieldType) yAS_inflateIfNeededFor ∧ cf_E D K A s s.heap ∧ ∀ q, s.heap.size ≤ q → A q)) (o0 : cf_O) (r : Unit) (h : fAS_inflateIfNeededFor_S15_0 o0 = some r) {H : Heap} {locs : List Loc} {ls : Array Slot} (hP : va_P D vwCl (wSB K h0 a0 o0) H) (hD : va_D A (wSB K h0 a0 o0)) (hS : va_S A s.heap H locs) (hl : lv_has ls 2 [(0, .ref h0), (1, .ref (K 115))]) : W p l e ({ frames := 1, cells := 0, slots := 0, locals := 20 }) s m AR below meth c H locs 0 0 (MQ below (va_Qv (fun (_ : Unit) => True) (fun (_ : Unit) t => cf_At D A (wSB K h0 a0 o0) t) A) AR s 0 0 A) (F0 m 0 ls []) := by
  obtain ⟨⟨hx, hb, hr, hts, hown, hlocks, hin, hml⟩, hE, hA⟩ := id C
  have hK := hE.k
  refine va_gets hx hb hE.2.2.2.2.2.2.1 hS hown (hts _ wv_444) (fun _ h9 => h9) dAS_inflateIfNeededFor_0 ?_
  refine lv_if_eq (tgt := 21) hx hb dAS_inflateIfNeededFor_3 (by decide) (fun c_1 => absurd c_1 (by decide)) (fun _ => ?_)
  refine lv_aload_n hx hb dAS_inflateIfNeededFor_6 rfl (lv_at hl 0 rfl) ?_
  refine va_get (D := D) (ci := 13) (v := .int (o0.1 1)) (C := RSB) (T := TSB) (N := 4) hx hb hts inSB hown hK hP 0 rfl rfl 1 (by decide) (hts _ wv_454) (fun _ h9 => h9) rfl dAS_inflateIfNeededFor_7 ?_
  refine lv_aload_n hx hb dAS_inflateIfNeededFor_10 rfl (lv_at hl 1 rfl) ?_
  obtain ⟨q_2, hq_2, h⟩ := op_b h
  refine cf_calli (wc := []) (wr := wSB K h0 a0 o0) (va_runV (As := []) (rest := [.int (o0.1 1)]) ⟨hx, hb, hml, hown, hts⟩ (mJString_coder__S15 l D K _ _ hq_2) (cwV 0 hts (cf_GV wv_1619 wv_761 wv_762 wv_168 wv_763) rfl rfl rfl (by decide +kernel) ⟨Nat.le_of_ble_eq_true rfl, Nat.le_of_ble_eq_true rfl⟩) (cf_preO (wc := []) (hE.s 15 rfl).2.1 hE hP hD hS hA [] rfl (by decide +kernel)) rfl rfl hl.1 rfl (lv_room (Nat.le_of_ble_eq_true rfl)) dAS_inflateIfNeededFor_11 ⟨Nat.le_of_ble_eq_true rfl, Nat.le_of_ble_eq_true rfl⟩) hP hD hS hA [] [0, 1] rfl rfl (by decide +kernel) (by decide +kernel) (fun r_3 _ H locs hw_4 hP hD hS => ?_)
  subst r_3
  have hP : va_P D vwCl (wSB K h0 a0 o0) H := hP.sub [0, 1] rfl
  have hD : va_D A (wSB K h0 a0 o0) := hD.sub [0, 1] (by decide +kernel) rfl
  refine lv_icmp_eq (tgt := 21) hx hb dAS_inflateIfNeededFor_14 (by decide) (fun c_5 => ?_) (fun c_5 => ?_)
  · have h := op_t c_5 h
    exact bAS_inflateIfNeededFor_S15_21 C _ _ h hP hD hS (lv_sub hl [] rfl)
  · have h := op_f c_5 h
    refine lv_aload_n hx hb dAS_inflateIfNeededFor_17 rfl (lv_at hl 0 rfl) ?_
    cases h
set_option maxRecDepth 100000 in
theorem mAS_inflateIfNeededFor_S15 (l : Launch) (D : va_G) (K : Nat → ClassId) (sz : Nat) (h0 : Nat) (a0 : Nat → Nat) (o0 : cf_O) (r : Unit) (h : fAS_inflateIfNeededFor_S15 o0 = some r) : Met l yAS_inflateIfNeededFor (Cond.code yAS_inflateIfNeededFor cAS_inflateIfNeededFor 2 (Option.none : Option Jvm.ClassFile.FieldType) :: cfB) ({ frames := 1, cells := 0, slots := 0, locals := 20 }) (va_Pc [.ref h0, .ref (K 115)] (cf_Pre D K sz (wSB K h0 a0 o0))) (va_Qv (fun (_ : Unit) => True) (fun (_ : Unit) t => cf_At D (va_A (wSB K h0 a0 o0) sz) (wSB K h0 a0 o0) t) (va_A (wSB K h0 a0 o0) sz)) 0 0 (va_A (wSB K h0 a0 o0) sz) := by
  refine cf_ofW (y := yAS_inflateIfNeededFor) (As := [.ref h0, .ref (K 115)]) (WS := wSB K h0 a0 o0) (maxL := 2) (fun A => (va_Qv (fun (_ : Unit) => True) (fun (_ : Unit) t => cf_At D A (wSB K h0 a0 o0) t) A)) (by decide) (Nat.le_of_ble_eq_true rfl) ?_
  intro p e s m below meth c A ls En hsz hA hP hD hE hS hl
  have C : (dc_C p s m (([.ref h0, .ref (K 115)] : List Value).toArray) meth c cAS_inflateIfNeededFor 2 (Option.none : Option Jvm.ClassFile.FieldType) yAS_inflateIfNeededFor ∧ cf_E D K A s s.heap ∧ ∀ q, s.heap.size ≤ q → A q) := ⟨En, hE, hA⟩
  exact bAS_inflateIfNeededFor_S15_0 C o0 r h hP hD hS hl
set_option maxRecDepth 100000 in
theorem nJString_getBytes_ABIB_S15_SB0_0 (v2 : Int32) (v3 : Int32) (o0 : cf_O) (r : cf_O) (h : fJString_getBytes_ABIB_S15_SB0_0 v2 v3 o0 = some r) : phSB o0 ≤ phSB r := by
  have hm : phSB o0 ≤ phSB o0 := Nat.le_refl _
  obtain ⟨q_1, hq_1, h⟩ := op_b h
  rcases (Classical.em (q_1 = v3)).symm with c_4 | c_4
  · have h := op_f c_4 h
    cases h
  · have h := op_t c_4 h
    obtain ⟨x_5, ex_5, h⟩ := op_kx h
    obtain ⟨hi_6, h⟩ := op_n h
    obtain ⟨o_7, eo_7, h⟩ := op_kx h
    have hm : phSB o0 ≤ phSB o_7 := by rw [eo_7]; exact hm
    obtain rfl := Option.some.inj h
    exact hm
theorem nJString_getBytes_ABIB_S15_SB0 (v2 : Int32) (v3 : Int32) (o0 : cf_O) (r : cf_O) (h : fJString_getBytes_ABIB_S15_SB0 v2 v3 o0 = some r) : phSB o0 ≤ phSB r := nJString_getBytes_ABIB_S15_SB0_0  v2 v3 o0 r h
set_option maxHeartbeats 4000000 in
set_option maxRecDepth 100000 in
theorem bJString_getBytes_ABIB_S15_SB0_0 {p : Program} {l : Launch} {e : Env} {s : State} {m : MethodId} {below : List Frame} {meth : Method} {c : Code} {A : Nat → Prop} {D : va_G} {K : Nat → ClassId} {h0 : Nat} {a0 : Nat → Nat} {AR : Array Value} (C : (dc_C p s m AR meth c cJString_getBytes_ABIB 4 (Option.none : Option Jvm.ClassFile.FieldType) yJString_getBytes_ABIB ∧ cf_E D K A s s.heap ∧ ∀ q, s.heap.size ≤ q → A q)) (v2 : Int32) (v3 : Int32) (o0 : cf_O) (r : cf_O) (h : fJString_getBytes_ABIB_S15_SB0_0 v2 v3 o0 = some r) {H : Heap} {locs : List Loc} {ls : Array Slot} (hP : va_P D vwCl (wSB K h0 a0 o0) H) (hD : va_D A (wSB K h0 a0 o0)) (hS : va_S A s.heap H locs) (hl : lv_has ls 4 [(0, .ref (K 115)), (1, .ref (a0 0)), (2, .int v2), (3, .int v3)]) : W p l e ({ frames := 1, cells := 0, slots := 0, locals := 60 }) s m AR below meth c H locs 0 0 (MQ below (va_Qv (fun (_ : Unit) => True) (fun (_ : Unit) t => cf_At D A (wSB K h0 a0 r) t) A) AR s 0 0 A) (F0 m 0 ls []) := by
  obtain ⟨⟨hx, hb, hr, hts, hown, hlocks, hin, hml⟩, hE, hA⟩ := id C
  have hK := hE.k
  refine lv_aload_n hx hb dJString_getBytes_ABIB_0 rfl (lv_at hl 0 rfl) ?_
  obtain ⟨q_1, hq_1, h⟩ := op_b h
  refine cf_calli (wc := []) (wr := wSB K h0 a0 o0) (va_runV (As := []) (rest := []) ⟨hx, hb, hml, hown, hts⟩ (mJString_coder__S15 l D K _ _ hq_1) (cwV 0 hts (cf_GV wv_760 wv_761 wv_762 wv_168 wv_763) rfl rfl rfl (by decide +kernel) ⟨Nat.le_of_ble_eq_true rfl, Nat.le_of_ble_eq_true rfl⟩) (cf_preO (wc := []) (hE.s 15 rfl).2.1 hE hP hD hS hA [] rfl (by decide +kernel)) rfl rfl hl.1 rfl (lv_room (Nat.le_of_ble_eq_true rfl)) dJString_getBytes_ABIB_1 ⟨Nat.le_of_ble_eq_true rfl, Nat.le_of_ble_eq_true rfl⟩) hP hD hS hA [] [0, 1] rfl rfl (by decide +kernel) (by decide +kernel) (fun r_2 _ H locs hw_3 hP hD hS => ?_)
  subst r_2
  have hP : va_P D vwCl (wSB K h0 a0 o0) H := hP.sub [0, 1] rfl
  have hD : va_D A (wSB K h0 a0 o0) := hD.sub [0, 1] (by decide +kernel) rfl
  refine lv_iload_n hx hb dJString_getBytes_ABIB_4 rfl (lv_at hl 3 rfl) ?_
  refine lv_icmp_ne (tgt := 28) hx hb dJString_getBytes_ABIB_5 (by decide) (fun c_4 => ?_) (fun c_4 => ?_)
  · have h := op_f c_4 h
    refine lv_aload_n hx hb dJString_getBytes_ABIB_28 rfl (lv_at hl 0 rfl) ?_
    refine vk_getf hx hb (hE.s 15 rfl).2.2.2.1 hS hown (hts _ wv_1735) (fun _ h9 => h9) dJString_getBytes_ABIB_29 ?_
    refine lv_iconst (v := 0) hx hb dJString_getBytes_ABIB_32 (by decide) ?_
    refine lv_aload_n hx hb dJString_getBytes_ABIB_33 rfl (lv_at hl 1 rfl) ?_
    refine lv_iload_n hx hb dJString_getBytes_ABIB_34 rfl (lv_at hl 2 rfl) ?_
    refine lv_aload_n hx hb dJString_getBytes_ABIB_35 rfl (lv_at hl 0 rfl) ?_
    refine vk_getf hx hb (hE.s 15 rfl).2.2.2.1 hS hown (hts _ wv_1735) (fun _ h9 => h9) dJString_getBytes_ABIB_36 ?_
    refine va_tlen (v := 2) hx hb (hE.s 15 rfl).2.2.2.2 hS rfl dJString_getBytes_ABIB_39 ?_
    cases h
  · have h := op_t c_4 h
    refine lv_aload_n hx hb dJString_getBytes_ABIB_8 rfl (lv_at hl 0 rfl) ?_
    refine vk_getf hx hb (hE.s 15 rfl).2.2.2.1 hS hown (hts _ wv_1735) (fun _ h9 => h9) dJString_getBytes_ABIB_9 ?_
    refine lv_iconst (v := 0) hx hb dJString_getBytes_ABIB_12 (by decide) ?_
    refine lv_aload_n hx hb dJString_getBytes_ABIB_13 rfl (lv_at hl 1 rfl) ?_
    refine lv_iload_n hx hb dJString_getBytes_ABIB_14 rfl (lv_at hl 2 rfl) ?_
    refine lv_iload_n hx hb dJString_getBytes_ABIB_15 rfl (lv_at hl 3 rfl) ?_
    refine lv_ishl hx hb dJString_getBytes_ABIB_16 ?_
    refine lv_topi (fun x_5 ex_5 => ?_)
    have h := op_ks ex_5 h
    refine lv_aload_n hx hb dJString_getBytes_ABIB_17 rfl (lv_at hl 0 rfl) ?_
    refine vk_getf hx hb (hE.s 15 rfl).2.2.2.1 hS hown (hts _ wv_1735) (fun _ h9 => h9) dJString_getBytes_ABIB_18 ?_
    refine va_tlen (v := 2) hx hb (hE.s 15 rfl).2.2.2.2 hS rfl dJString_getBytes_ABIB_21 ?_
    obtain ⟨hi_6, h⟩ := op_n h
    refine vk_copyt (D := D) (f := cf_sb 15) hx hb (hml.trans hl.1.symm) hown (hts _ wv_1643) (hts _ wv_1295) (hts _ wv_1294) (hts _ wv_187) hK hP hD hS (hE.s 15 rfl).2.2.2.2 1 2 rfl rfl (by decide) (fun z => hi_6 (Or.inl z)) (by decide) (by decide) (Nat.not_lt.mp (fun z => hi_6 (Or.inr z))) (by decide) (Nat.le_of_ble_eq_true rfl) (Nat.le_of_ble_eq_true rfl) dJString_getBytes_ABIB_22 (fun H locs hP hD hS => ?_)
    have hP : va_P D vwCl (wSB K h0 a0 (cb o0 0 15 x_5 2)) H := hP
    have hD : va_D A (wSB K h0 a0 (cb o0 0 15 x_5 2)) := hD
    obtain ⟨o_7, eo_7, h⟩ := op_kx h
    rw [← eo_7] at hP hD
    refine lv_goto (tgt := 43) hx hb dJString_getBytes_ABIB_25 (by decide) ?_
    obtain rfl := Option.some.inj h
    exact dc_vret hx hb hr hlocks rfl hP hD hS dJString_getBytes_ABIB_43
set_option maxRecDepth 100000 in
theorem mJString_getBytes_ABIB_S15_SB0 (l : Launch) (D : va_G) (K : Nat → ClassId) (sz : Nat) (v2 : Int32) (v3 : Int32) (h0 : Nat) (a0 : Nat → Nat) (o0 : cf_O) (r : cf_O) (h : fJString_getBytes_ABIB_S15_SB0 v2 v3 o0 = some r) : Met l yJString_getBytes_ABIB (Cond.code yJString_getBytes_ABIB cJString_getBytes_ABIB 4 (Option.none : Option Jvm.ClassFile.FieldType) :: cfB) ({ frames := 1, cells := 0, slots := 0, locals := 60 }) (va_Pc [.ref (K 115), .ref (a0 0), .int v2, .int v3] (cf_Pre D K sz (wSB K h0 a0 o0))) (va_Qv (fun (_ : Unit) => True) (fun (_ : Unit) t => cf_At D (va_A (wSB K h0 a0 o0) sz) (wSB K h0 a0 r) t) (va_A (wSB K h0 a0 o0) sz)) 0 0 (va_A (wSB K h0 a0 o0) sz) := by
  refine cf_ofW (y := yJString_getBytes_ABIB) (As := [.ref (K 115), .ref (a0 0), .int v2, .int v3]) (WS := wSB K h0 a0 o0) (maxL := 4) (fun A => (va_Qv (fun (_ : Unit) => True) (fun (_ : Unit) t => cf_At D A (wSB K h0 a0 r) t) A)) (by decide) (Nat.le_of_ble_eq_true rfl) ?_
  intro p e s m below meth c A ls En hsz hA hP hD hE hS hl
  have C : (dc_C p s m (([.ref (K 115), .ref (a0 0), .int v2, .int v3] : List Value).toArray) meth c cJString_getBytes_ABIB 4 (Option.none : Option Jvm.ClassFile.FieldType) yJString_getBytes_ABIB ∧ cf_E D K A s s.heap ∧ ∀ q, s.heap.size ≤ q → A q) := ⟨En, hE, hA⟩
  exact bJString_getBytes_ABIB_S15_SB0_0 C v2 v3 o0 r h hP hD hS hl
set_option maxRecDepth 100000 in
theorem nAS_putStringAt_S15_0 (v1 : Int32) (o0 : cf_O) (r : cf_O) (h : fAS_putStringAt_S15_0 v1 o0 = some r) : phSB o0 ≤ phSB r := by
  have hm : phSB o0 ≤ phSB o0 := Nat.le_refl _
  obtain ⟨q_1, hq_1, h⟩ := op_b h
  obtain ⟨q_3, hq_3, h⟩ := op_b h
  have hm : phSB o0 ≤ phSB q_3 := Nat.le_trans hm (nJString_getBytes_ABIB_S15_SB0 _ _ _ _ hq_3)
  obtain rfl := Option.some.inj h
  exact hm
theorem nAS_putStringAt_S15 (v1 : Int32) (o0 : cf_O) (r : cf_O) (h : fAS_putStringAt_S15 v1 o0 = some r) : phSB o0 ≤ phSB r := nAS_putStringAt_S15_0  v1 o0 r h
set_option maxHeartbeats 4000000 in
set_option maxRecDepth 100000 in
theorem bAS_putStringAt_S15_0 {p : Program} {l : Launch} {e : Env} {s : State} {m : MethodId} {below : List Frame} {meth : Method} {c : Code} {A : Nat → Prop} {D : va_G} {K : Nat → ClassId} {h0 : Nat} {a0 : Nat → Nat} {AR : Array Value} (C : (dc_C p s m AR meth c cAS_putStringAt 3 (Option.none : Option Jvm.ClassFile.FieldType) yAS_putStringAt ∧ cf_E D K A s s.heap ∧ ∀ q, s.heap.size ≤ q → A q)) (v1 : Int32) (o0 : cf_O) (r : cf_O) (h : fAS_putStringAt_S15_0 v1 o0 = some r) {H : Heap} {locs : List Loc} {ls : Array Slot} (hP : va_P D vwCl (wSB K h0 a0 o0) H) (hD : va_D A (wSB K h0 a0 o0)) (hS : va_S A s.heap H locs) (hl : lv_has ls 3 [(0, .ref h0), (1, .int v1), (2, .ref (K 115))]) : W p l e ({ frames := 2, cells := 0, slots := 0, locals := 83 }) s m AR below meth c H locs 0 0 (MQ below (va_Qv (fun (_ : Unit) => True) (fun (_ : Unit) t => cf_At D A (wSB K h0 a0 r) t) A) AR s 0 0 A) (F0 m 0 ls []) := by
  obtain ⟨⟨hx, hb, hr, hts, hown, hlocks, hin, hml⟩, hE, hA⟩ := id C
  have hK := hE.k
  refine lv_aload_n hx hb dAS_putStringAt_0 rfl (lv_at hl 0 rfl) ?_
  refine lv_aload_n hx hb dAS_putStringAt_1 rfl (lv_at hl 2 rfl) ?_
  obtain ⟨q_1, hq_1, h⟩ := op_b h
  refine dc_callv (va_runU (As := [.ref (K 115)]) (rest := []) ⟨hx, hb, hml, hown, hts⟩ (mAS_inflateIfNeededFor_S15 l D K _ h0 a0 o0 _ hq_1) (cf_cwU (C := "java/lang/StringBuilder") 1 hts (cf_G1 wv_1618) rfl rfl rfl (hts _ wv_166) (hts _ wv_1615) (hts _ wv_2793) (va_Nw.use rfl (hE.n 32 rfl)) (hts _ wv_1617) (by decide +kernel) ⟨Nat.le_of_ble_eq_true rfl, Nat.le_of_ble_eq_true rfl⟩) (dc_preV hE hP hD hS hA rfl 0 rfl) rfl rfl hl.1 rfl (lv_room (Nat.le_of_ble_eq_true rfl)) dAS_putStringAt_2 ⟨Nat.le_of_ble_eq_true rfl, Nat.le_of_ble_eq_true rfl⟩) hP hD hS hA (fun H locs hP hD hS => ?_)
  refine lv_aload_n hx hb dAS_putStringAt_5 rfl (lv_at hl 2 rfl) ?_
  refine lv_aload_n hx hb dAS_putStringAt_6 rfl (lv_at hl 0 rfl) ?_
  refine va_get (D := D) (ci := 13) (v := .ref (a0 0)) (C := RSB) (T := TSB) (N := 4) hx hb hts inSB hown hK hP 0 rfl rfl 0 (by decide) (hts _ wv_453) (fun _ h9 => h9) rfl dAS_putStringAt_7 ?_
  refine lv_iload_n hx hb dAS_putStringAt_10 rfl (lv_at hl 1 rfl) ?_
  refine lv_aload_n hx hb dAS_putStringAt_11 rfl (lv_at hl 0 rfl) ?_
  refine va_get (D := D) (ci := 13) (v := .int (o0.1 1)) (C := RSB) (T := TSB) (N := 4) hx hb hts inSB hown hK hP 0 rfl rfl 1 (by decide) (hts _ wv_454) (fun _ h9 => h9) rfl dAS_putStringAt_12 ?_
  obtain ⟨q_3, hq_3, h⟩ := op_b h
  refine cf_callv (wc := wSB K h0 a0 o0) (wr := []) (va_runV (As := [.ref (a0 0), .int v1, .int (o0.1 1)]) (rest := []) ⟨hx, hb, hml, hown, hts⟩ (mJString_getBytes_ABIB_S15_SB0 l D K _ v1 (o0.1 1) h0 a0 o0 _ hq_3) (cwV 3 hts (cf_GV wv_1639 wv_1640 wv_1641 wv_168 wv_1642) rfl rfl rfl (by decide +kernel) ⟨Nat.le_of_ble_eq_true rfl, Nat.le_of_ble_eq_true rfl⟩) (cf_preO (wc := wSB K h0 a0 o0) (hE.s 15 rfl).2.1 hE hP hD hS hA [0, 1] rfl (by decide +kernel)) rfl rfl hl.1 rfl (lv_room (Nat.le_of_ble_eq_true rfl)) dAS_putStringAt_15 ⟨Nat.le_of_ble_eq_true rfl, Nat.le_of_ble_eq_true rfl⟩) hP hD hS hA [0, 1] [] rfl rfl (by decide +kernel) (by decide +kernel) (fun _ H locs hw_4 hP hD hS => ?_)
  have hP : va_P D vwCl (wSB K h0 a0 q_3) H := hP.sub [0, 1] rfl
  have hD : va_D A (wSB K h0 a0 q_3) := hD.sub [0, 1] (by decide +kernel) rfl
  obtain rfl := Option.some.inj h
  exact dc_vret hx hb hr hlocks rfl hP hD hS dAS_putStringAt_18
set_option maxRecDepth 100000 in
theorem mAS_putStringAt_S15 (l : Launch) (D : va_G) (K : Nat → ClassId) (sz : Nat) (v1 : Int32) (h0 : Nat) (a0 : Nat → Nat) (o0 : cf_O) (r : cf_O) (h : fAS_putStringAt_S15 v1 o0 = some r) : Met l yAS_putStringAt (Cond.code yAS_putStringAt cAS_putStringAt 3 (Option.none : Option Jvm.ClassFile.FieldType) :: cfB) ({ frames := 2, cells := 0, slots := 0, locals := 83 }) (va_Pc [.ref h0, .int v1, .ref (K 115)] (cf_Pre D K sz (wSB K h0 a0 o0))) (va_Qv (fun (_ : Unit) => True) (fun (_ : Unit) t => cf_At D (va_A (wSB K h0 a0 o0) sz) (wSB K h0 a0 r) t) (va_A (wSB K h0 a0 o0) sz)) 0 0 (va_A (wSB K h0 a0 o0) sz) := by
  refine cf_ofW (y := yAS_putStringAt) (As := [.ref h0, .int v1, .ref (K 115)]) (WS := wSB K h0 a0 o0) (maxL := 3) (fun A => (va_Qv (fun (_ : Unit) => True) (fun (_ : Unit) t => cf_At D A (wSB K h0 a0 r) t) A)) (by decide) (Nat.le_of_ble_eq_true rfl) ?_
  intro p e s m below meth c A ls En hsz hA hP hD hE hS hl
  have C : (dc_C p s m (([.ref h0, .int v1, .ref (K 115)] : List Value).toArray) meth c cAS_putStringAt 3 (Option.none : Option Jvm.ClassFile.FieldType) yAS_putStringAt ∧ cf_E D K A s s.heap ∧ ∀ q, s.heap.size ≤ q → A q) := ⟨En, hE, hA⟩
  exact bAS_putStringAt_S15_0 C v1 o0 r h hP hD hS hl
set_option maxRecDepth 100000 in
theorem nAS_appendS_S15_33 (v2 : Int32) (o0 : cf_O) (r : cf_O) (h : fAS_appendS_S15_33 v2 o0 = some r) : phSB o0 ≤ phSB r := by
  have hm : phSB o0 ≤ phSB o0 := Nat.le_refl _
  obtain ⟨x_1, ex_1, h⟩ := op_kx h
  obtain ⟨o_2, eo_2, h⟩ := op_kx h
  have hm : phSB o0 ≤ phSB o_2 := by rw [eo_2]; exact hm
  obtain rfl := Option.some.inj h
  exact hm
set_option maxRecDepth 100000 in
theorem nAS_appendS_S15_24 (v2 : Int32) (o0 : cf_O) (r : cf_O) (h : fAS_appendS_S15_24 v2 o0 = some r) : phSB o0 ≤ phSB r := by
  have hm : phSB o0 ≤ phSB o0 := Nat.le_refl _
  obtain ⟨q_1, hq_1, h⟩ := op_b h
  have hm : phSB o0 ≤ phSB q_1 := Nat.le_trans hm (nAS_putStringAt_S15 _ _ _ hq_1)
  exact Nat.le_trans hm (nAS_appendS_S15_33 _ _ _ h)
set_option maxRecDepth 100000 in
theorem nAS_appendS_S15_13 (s0 : Int32) (o0 : cf_O) (r : cf_O) (h : fAS_appendS_S15_13 s0 o0 = some r) : phSB o0 ≤ phSB r := by
  have hm : phSB o0 ≤ phSB o0 := Nat.le_refl _
  obtain ⟨x_1, ex_1, h⟩ := op_kx h
  obtain ⟨q_2, hq_2, h⟩ := op_b h
  have hm : phSB o0 ≤ phSB q_2 := Nat.le_trans hm (nAS_ensureCapacityInternal _ _ _ hq_2)
  exact Nat.le_trans hm (nAS_appendS_S15_24 _ _ _ h)
set_option maxRecDepth 100000 in
theorem nAS_appendS_S15_0 (o0 : cf_O) (r : cf_O) (h : fAS_appendS_S15_0 o0 = some r) : phSB o0 ≤ phSB r := by
  have hm : phSB o0 ≤ phSB o0 := Nat.le_refl _
  obtain ⟨q_1, hq_1, h⟩ := op_b h
  exact Nat.le_trans hm (nAS_appendS_S15_13 _ _ _ h)
theorem nAS_appendS_S15 (o0 : cf_O) (r : cf_O) (h : fAS_appendS_S15 o0 = some r) : phSB o0 ≤ phSB r := nAS_appendS_S15_0  o0 r h
set_option maxHeartbeats 4000000 in
set_option maxRecDepth 100000 in
theorem bAS_appendS_S15_33 {p : Program} {l : Launch} {e : Env} {s : State} {m : MethodId} {below : List Frame} {meth : Method} {c : Code} {A : Nat → Prop} {D : va_G} {K : Nat → ClassId} {h0 : Nat} {os : cf_O} {AR : Array Value} (C : (dc_C p s m AR meth c cAS_appendS 3 (Option.some (Jvm.ClassFile.FieldType.object "java/lang/AbstractStringBuilder")) yAS_appendS ∧ cf_E D K A s s.heap ∧ ∀ q, s.heap.size ≤ q → A q)) (v2 : Int32) (o0 : cf_O) (r : cf_O) (h : fAS_appendS_S15_33 v2 o0 = some r) {a0 : Nat → Nat} {H : Heap} {locs : List Loc} {ls : Array Slot} (hg : phSB os ≤ phSB o0) (hP : va_P D vwCl (wSB K h0 a0 o0) H) (hD : va_D A (wSB K h0 a0 o0)) (hS : va_S A s.heap H locs) (hl : lv_has ls 3 [(0, .ref h0), (2, .int v2)]) : W p l e ({ frames := 4, cells := (gC (phSB os) (phSB r)), slots := (gS (phSB os) (phSB r)), locals := 124 }) s m AR below meth c H locs (gC (phSB os) (phSB o0)) (gS (phSB os) (phSB o0)) (MQ below (va_Qr (fun (_ : Nat → Nat) => True) (fun (u : Nat → Nat) q t => cf_At D A (wSB K h0 u r) t ∧ q = h0) A) AR s (gC (phSB os) (phSB r)) (gS (phSB os) (phSB r)) A) (F0 m 33 ls []) := by
  obtain ⟨⟨hx, hb, hr, hts, hown, hlocks, hin, hml⟩, hE, hA⟩ := id C
  have hK := hE.k
  refine lv_aload_n hx hb dAS_appendS_33 rfl (lv_at hl 0 rfl) ?_
  refine lv_dup hx hb dAS_appendS_34 rfl ?_
  refine va_get (D := D) (ci := 13) (v := .int (o0.1 3)) (C := RSB) (T := TSB) (N := 4) hx hb hts inSB hown hK hP 0 rfl rfl 3 (by decide) (hts _ wv_457) (fun _ h9 => h9) rfl dAS_appendS_35 ?_
  refine lv_iload_n hx hb dAS_appendS_38 rfl (lv_at hl 1 rfl) ?_
  refine lv_iadd hx hb dAS_appendS_39 ?_
  refine lv_topi (fun x_1 ex_1 => ?_)
  have h := op_ks ex_1 h
  refine va_put (D := D) (ci := 13) (v := .int x_1) (ty := .int) (C := RSB) (T := TSB) (N := 4) hx hb hts inSB tySB tyokSB nmSB hown hK hP hD hS 0 rfl rfl 3 (by decide) (hts _ wv_457) (fun _ h9 => h9) rfl (by decide +kernel) rfl rfl (Nat.le_of_ble_eq_true rfl) dAS_appendS_40 (fun H locs hP hD hS => ?_)
  have hP : va_P D vwCl (wSB K h0 a0 (fp o0 3 x_1)) H := hP
  have hD : va_D A (wSB K h0 a0 (fp o0 3 x_1)) := hD
  obtain ⟨o_2, eo_2, h⟩ := op_kx h
  rw [← eo_2] at hP hD
  have hf_3 : phSB o_2 = phSB o0 := by rw [eo_2]; rfl
  refine W.widen (k := (gC (phSB os) (phSB o_2))) (n := (gS (phSB os) (phSB o_2))) (by rw [hf_3]; exact Nat.le_refl _) (by rw [hf_3]; exact Nat.le_refl _) ?_
  have hg : phSB os ≤ phSB o_2 := by rw [hf_3]; exact hg
  refine lv_aload_n hx hb dAS_appendS_43 rfl (lv_at hl 0 rfl) ?_
  obtain rfl := Option.some.inj h
  exact dc_aretG a0 hx hb hr ⟨_, rfl⟩ hlocks hP hD hS dAS_appendS_44
set_option maxHeartbeats 4000000 in
set_option maxRecDepth 100000 in
theorem bAS_appendS_S15_24 {p : Program} {l : Launch} {e : Env} {s : State} {m : MethodId} {below : List Frame} {meth : Method} {c : Code} {A : Nat → Prop} {D : va_G} {K : Nat → ClassId} {h0 : Nat} {os : cf_O} {AR : Array Value} (C : (dc_C p s m AR meth c cAS_appendS 3 (Option.some (Jvm.ClassFile.FieldType.object "java/lang/AbstractStringBuilder")) yAS_appendS ∧ cf_E D K A s s.heap ∧ ∀ q, s.heap.size ≤ q → A q)) (v2 : Int32) (o0 : cf_O) (r : cf_O) (h : fAS_appendS_S15_24 v2 o0 = some r) {a0 : Nat → Nat} {H : Heap} {locs : List Loc} {ls : Array Slot} (hg : phSB os ≤ phSB o0) (hP : va_P D vwCl (wSB K h0 a0 o0) H) (hD : va_D A (wSB K h0 a0 o0)) (hS : va_S A s.heap H locs) (hl : lv_has ls 3 [(0, .ref h0), (1, .ref (K 115)), (2, .int v2)]) : W p l e ({ frames := 4, cells := (gC (phSB os) (phSB r)), slots := (gS (phSB os) (phSB r)), locals := 124 }) s m AR below meth c H locs (gC (phSB os) (phSB o0)) (gS (phSB os) (phSB o0)) (MQ below (va_Qr (fun (_ : Nat → Nat) => True) (fun (u : Nat → Nat) q t => cf_At D A (wSB K h0 u r) t ∧ q = h0) A) AR s (gC (phSB os) (phSB r)) (gS (phSB os) (phSB r)) A) (F0 m 24 ls []) := by
  obtain ⟨⟨hx, hb, hr, hts, hown, hlocks, hin, hml⟩, hE, hA⟩ := id C
  have hK := hE.k
  refine lv_aload_n hx hb dAS_appendS_24 rfl (lv_at hl 0 rfl) ?_
  refine lv_aload_n hx hb dAS_appendS_25 rfl (lv_at hl 0 rfl) ?_
  refine va_get (D := D) (ci := 13) (v := .int (o0.1 3)) (C := RSB) (T := TSB) (N := 4) hx hb hts inSB hown hK hP 0 rfl rfl 3 (by decide) (hts _ wv_457) (fun _ h9 => h9) rfl dAS_appendS_26 ?_
  refine lv_aload_n hx hb dAS_appendS_29 rfl (lv_at hl 1 rfl) ?_
  obtain ⟨q_1, hq_1, h⟩ := op_b h
  have hgr_2 : phSB q_1 ≤ phSB r := nAS_appendS_S15_33 _ _ _ h
  have hg2_3 : phSB o0 ≤ phSB q_1 := nAS_putStringAt_S15 _ _ _ hq_1
  refine dc_callv (va_runU (As := [.int (o0.1 3), .ref (K 115)]) (rest := []) ⟨hx, hb, hml, hown, hts⟩ (mAS_putStringAt_S15 l D K _ (o0.1 3) h0 a0 o0 _ hq_1) (cf_cwU (C := "java/lang/StringBuilder") 2 hts (cf_G1 wv_1614) rfl rfl rfl (hts _ wv_166) (hts _ wv_1611) (hts _ wv_2792) (va_Nw.use rfl (hE.n 31 rfl)) (hts _ wv_1613) (by decide +kernel) ⟨Nat.le_of_ble_eq_true rfl, Nat.le_of_ble_eq_true rfl⟩) (dc_preV hE hP hD hS hA rfl 0 rfl) rfl rfl hl.1 rfl (lv_room (Nat.le_of_ble_eq_true rfl)) dAS_appendS_30 ⟨gC_le (Nat.le_trans hg2_3 hgr_2), gS_le (Nat.le_trans hg2_3 hgr_2)⟩) hP hD hS hA (fun H locs hP hD hS => ?_)
  refine W.widen (k := (gC (phSB os) (phSB q_1))) (n := (gS (phSB os) (phSB q_1))) (gC_le hg2_3) (gS_le hg2_3) ?_
  have hg : phSB os ≤ phSB q_1 := Nat.le_trans hg hg2_3
  exact bAS_appendS_S15_33 C _ _ _ h hg hP hD hS (lv_sub hl [0, 2] rfl)
set_option maxHeartbeats 4000000 in
set_option maxRecDepth 100000 in
theorem bAS_appendS_S15_13 {p : Program} {l : Launch} {e : Env} {s : State} {m : MethodId} {below : List Frame} {meth : Method} {c : Code} {A : Nat → Prop} {D : va_G} {K : Nat → ClassId} {h0 : Nat} {os : cf_O} {AR : Array Value} (C : (dc_C p s m AR meth c cAS_appendS 3 (Option.some (Jvm.ClassFile.FieldType.object "java/lang/AbstractStringBuilder")) yAS_appendS ∧ cf_E D K A s s.heap ∧ ∀ q, s.heap.size ≤ q → A q)) (s0 : Int32) (o0 : cf_O) (r : cf_O) (h : fAS_appendS_S15_13 s0 o0 = some r) {a0 : Nat → Nat} {H : Heap} {locs : List Loc} {ls : Array Slot} (hg : phSB os ≤ phSB o0) (hP : va_P D vwCl (wSB K h0 a0 o0) H) (hD : va_D A (wSB K h0 a0 o0)) (hS : va_S A s.heap H locs) (hl : lv_has ls 3 [(0, .ref h0), (1, .ref (K 115))]) : W p l e ({ frames := 4, cells := (gC (phSB os) (phSB r)), slots := (gS (phSB os) (phSB r)), locals := 124 }) s m AR below meth c H locs (gC (phSB os) (phSB o0)) (gS (phSB os) (phSB o0)) (MQ below (va_Qr (fun (_ : Nat → Nat) => True) (fun (u : Nat → Nat) q t => cf_At D A (wSB K h0 u r) t ∧ q = h0) A) AR s (gC (phSB os) (phSB r)) (gS (phSB os) (phSB r)) A) (F0 m 13 ls [.int s0]) := by
  obtain ⟨⟨hx, hb, hr, hts, hown, hlocks, hin, hml⟩, hE, hA⟩ := id C
  have hK := hE.k
  refine lv_istore_n (lv' := [(2, .int s0), (0, .ref h0), (1, .ref (K 115))]) hx hb dAS_appendS_13 rfl hl (by decide) rfl (fun ls hl => ?_)
  refine lv_aload_n hx hb dAS_appendS_14 rfl (lv_at hl 1 rfl) ?_
  refine lv_aload_n hx hb dAS_appendS_15 rfl (lv_at hl 1 rfl) ?_
  refine va_get (D := D) (ci := 13) (v := .int (o0.1 3)) (C := RSB) (T := TSB) (N := 4) hx hb hts inSB hown hK hP 0 rfl rfl 3 (by decide) (hts _ wv_457) (fun _ h9 => h9) rfl dAS_appendS_16 ?_
  refine lv_iload_n hx hb dAS_appendS_19 rfl (lv_at hl 0 rfl) ?_
  refine lv_iadd hx hb dAS_appendS_20 ?_
  refine lv_topi (fun x_1 ex_1 => ?_)
  have h := op_ks ex_1 h
  obtain ⟨q_2, hq_2, h⟩ := op_b h
  have hgr_3 : phSB q_2 ≤ phSB r := nAS_appendS_S15_24 _ _ _ h
  have hg2_4 : phSB o0 ≤ phSB q_2 := nAS_ensureCapacityInternal _ _ _ hq_2
  refine cf_callv (wc := wSB K h0 a0 o0) (wr := []) (va_runU (As := [.int x_1]) (rest := []) ⟨hx, hb, hml, hown, hts⟩ (mAS_ensureCapacityInternal l D K _ x_1 h0 a0 o0 _ hq_2) (cf_cwU (C := "java/lang/StringBuilder") 1 hts (cf_G1 wv_1568) rfl rfl rfl (hts _ wv_166) (hts _ wv_1565) (hts _ wv_2790) (va_Nw.use rfl (hE.n 29 rfl)) (hts _ wv_1567) (by decide +kernel) ⟨Nat.le_of_ble_eq_true rfl, Nat.le_of_ble_eq_true rfl⟩) (cf_preV (wc := wSB K h0 a0 o0) hE hP hD hS hA rfl 0 rfl [0, 1] rfl (by decide +kernel)) rfl rfl hl.1 rfl (lv_room (Nat.le_of_ble_eq_true rfl)) dAS_appendS_21 ⟨Nat.le_trans (gC_add hg hg2_4) (gC_le hgr_3), Nat.le_trans (gS_add hg hg2_4) (gS_le hgr_3)⟩) hP hD hS hA [0, 1] [] rfl rfl (by decide +kernel) (by decide +kernel) (fun a0_6 H locs hw_5 hP hD hS => ?_)
  have hP : va_P D vwCl (wSB K h0 a0_6 q_2) H := hP.sub [0, 1] rfl
  have hD : va_D A (wSB K h0 a0_6 q_2) := hD.sub [0, 1] (by decide +kernel) rfl
  refine W.widen (k := (gC (phSB os) (phSB q_2))) (n := (gS (phSB os) (phSB q_2))) (gC_add hg hg2_4) (gS_add hg hg2_4) ?_
  have hg : phSB os ≤ phSB q_2 := Nat.le_trans hg hg2_4
  exact bAS_appendS_S15_24 C _ _ _ h hg hP hD hS (lv_sub hl [1, 2, 0] rfl)
set_option maxHeartbeats 4000000 in
set_option maxRecDepth 100000 in
theorem bAS_appendS_S15_0 {p : Program} {l : Launch} {e : Env} {s : State} {m : MethodId} {below : List Frame} {meth : Method} {c : Code} {A : Nat → Prop} {D : va_G} {K : Nat → ClassId} {h0 : Nat} {os : cf_O} {AR : Array Value} (C : (dc_C p s m AR meth c cAS_appendS 3 (Option.some (Jvm.ClassFile.FieldType.object "java/lang/AbstractStringBuilder")) yAS_appendS ∧ cf_E D K A s s.heap ∧ ∀ q, s.heap.size ≤ q → A q)) (o0 : cf_O) (r : cf_O) (h : fAS_appendS_S15_0 o0 = some r) {a0 : Nat → Nat} {H : Heap} {locs : List Loc} {ls : Array Slot} (hg : phSB os ≤ phSB o0) (hP : va_P D vwCl (wSB K h0 a0 o0) H) (hD : va_D A (wSB K h0 a0 o0)) (hS : va_S A s.heap H locs) (hl : lv_has ls 3 [(0, .ref h0), (1, .ref (K 115))]) : W p l e ({ frames := 4, cells := (gC (phSB os) (phSB r)), slots := (gS (phSB os) (phSB r)), locals := 124 }) s m AR below meth c H locs (gC (phSB os) (phSB o0)) (gS (phSB os) (phSB o0)) (MQ below (va_Qr (fun (_ : Nat → Nat) => True) (fun (u : Nat → Nat) q t => cf_At D A (wSB K h0 u r) t ∧ q = h0) A) AR s (gC (phSB os) (phSB r)) (gS (phSB os) (phSB r)) A) (F0 m 0 ls []) := by
  obtain ⟨⟨hx, hb, hr, hts, hown, hlocks, hin, hml⟩, hE, hA⟩ := id C
  have hK := hE.k
  refine lv_aload_n hx hb dAS_appendS_0 rfl (lv_at hl 1 rfl) ?_
  refine lv_ifnonnull (tgt := 9) hx hb dAS_appendS_1 (by decide) ?_
  refine lv_aload_n hx hb dAS_appendS_9 rfl (lv_at hl 1 rfl) ?_
  obtain ⟨q_1, hq_1, h⟩ := op_b h
  have hgr_2 : phSB o0 ≤ phSB r := nAS_appendS_S15_13 _ _ _ h
  refine cf_calli (wc := []) (wr := wSB K h0 a0 o0) (va_runV (As := []) (rest := []) ⟨hx, hb, hml, hown, hts⟩ (mJString_length__S15 l D K _ _ hq_1) (cwV 0 hts (cf_GV wv_1610 wv_757 wv_758 wv_168 wv_759) rfl rfl rfl (by decide +kernel) ⟨Nat.le_of_ble_eq_true rfl, Nat.le_of_ble_eq_true rfl⟩) (cf_preO (wc := []) (hE.s 15 rfl).2.1 hE hP hD hS hA [] rfl (by decide +kernel)) rfl rfl hl.1 rfl (lv_room (Nat.le_of_ble_eq_true rfl)) dAS_appendS_10 ⟨gC_le hgr_2, gS_le hgr_2⟩) hP hD hS hA [] [0, 1] rfl rfl (by decide +kernel) (by decide +kernel) (fun r_4 _ H locs hw_5 hP hD hS => ?_)
  subst r_4
  have hP : va_P D vwCl (wSB K h0 a0 o0) H := hP.sub [0, 1] rfl
  have hD : va_D A (wSB K h0 a0 o0) := hD.sub [0, 1] (by decide +kernel) rfl
  refine W.widen (k := (gC (phSB os) (phSB o0))) (n := (gS (phSB os) (phSB o0))) (Nat.le_refl _) (Nat.le_refl _) ?_
  exact bAS_appendS_S15_13 C _ _ _ h hg hP hD hS (lv_sub hl [0, 1] rfl)
set_option maxRecDepth 100000 in
theorem mAS_appendS_S15 (l : Launch) (D : va_G) (K : Nat → ClassId) (sz : Nat) (h0 : Nat) (a0 : Nat → Nat) (o0 : cf_O) (r : cf_O) (h : fAS_appendS_S15 o0 = some r) : Met l yAS_appendS (Cond.code yAS_appendS cAS_appendS 3 (Option.some (Jvm.ClassFile.FieldType.object "java/lang/AbstractStringBuilder")) :: cfB) ({ frames := 4, cells := (gC (phSB o0) (phSB r)), slots := (gS (phSB o0) (phSB r)), locals := 124 }) (va_Pc [.ref h0, .ref (K 115)] (cf_Pre D K sz (wSB K h0 a0 o0))) (va_Qr (fun (_ : Nat → Nat) => True) (fun (u : Nat → Nat) q t => cf_At D (va_A (wSB K h0 a0 o0) sz) (wSB K h0 u r) t ∧ q = h0) (va_A (wSB K h0 a0 o0) sz)) (gC (phSB o0) (phSB r)) (gS (phSB o0) (phSB r)) (va_A (wSB K h0 a0 o0) sz) := by
  refine cf_ofW (y := yAS_appendS) (As := [.ref h0, .ref (K 115)]) (WS := wSB K h0 a0 o0) (maxL := 3) (fun A => (va_Qr (fun (_ : Nat → Nat) => True) (fun (u : Nat → Nat) q t => cf_At D A (wSB K h0 u r) t ∧ q = h0) A)) (by decide) (Nat.le_of_ble_eq_true rfl) ?_
  intro p e s m below meth c A ls En hsz hA hP hD hE hS hl
  have C : (dc_C p s m (([.ref h0, .ref (K 115)] : List Value).toArray) meth c cAS_appendS 3 (Option.some (Jvm.ClassFile.FieldType.object "java/lang/AbstractStringBuilder")) yAS_appendS ∧ cf_E D K A s s.heap ∧ ∀ q, s.heap.size ≤ q → A q) := ⟨En, hE, hA⟩
  refine W.widen (k := gC (phSB o0) (phSB o0)) (n := gS (phSB o0) (phSB o0)) (Nat.zero_le _) (Nat.zero_le _) ?_
  exact bAS_appendS_S15_0 C o0 r h (Nat.le_refl _) hP hD hS hl
set_option maxRecDepth 100000 in
theorem nSB_appendS_S15_5 (o0 : cf_O) (r : cf_O) (h : fSB_appendS_S15_5 o0 = some r) : phSB o0 ≤ phSB r := by
  have hm : phSB o0 ≤ phSB o0 := Nat.le_refl _
  obtain rfl := Option.some.inj h
  exact hm
set_option maxRecDepth 100000 in
theorem nSB_appendS_S15_0 (o0 : cf_O) (r : cf_O) (h : fSB_appendS_S15_0 o0 = some r) : phSB o0 ≤ phSB r := by
  have hm : phSB o0 ≤ phSB o0 := Nat.le_refl _
  obtain ⟨q_1, hq_1, h⟩ := op_b h
  have hm : phSB o0 ≤ phSB q_1 := Nat.le_trans hm (nAS_appendS_S15 _ _ hq_1)
  exact Nat.le_trans hm (nSB_appendS_S15_5 _ _ h)
theorem nSB_appendS_S15 (o0 : cf_O) (r : cf_O) (h : fSB_appendS_S15 o0 = some r) : phSB o0 ≤ phSB r := nSB_appendS_S15_0  o0 r h
set_option maxHeartbeats 4000000 in
set_option maxRecDepth 100000 in
theorem bSB_appendS_S15_5 {p : Program} {l : Launch} {e : Env} {s : State} {m : MethodId} {below : List Frame} {meth : Method} {c : Code} {A : Nat → Prop} {D : va_G} {K : Nat → ClassId} {h0 : Nat} {os : cf_O} {AR : Array Value} (C : (dc_C p s m AR meth c cSB_appendS 2 (Option.some (Jvm.ClassFile.FieldType.object "java/lang/StringBuilder")) ySB_appendS ∧ cf_E D K A s s.heap ∧ ∀ q, s.heap.size ≤ q → A q)) (o0 : cf_O) (r : cf_O) (h : fSB_appendS_S15_5 o0 = some r) {a0 : Nat → Nat} {H : Heap} {locs : List Loc} {ls : Array Slot} (hg : phSB os ≤ phSB o0) (hP : va_P D vwCl (wSB K h0 a0 o0) H) (hD : va_D A (wSB K h0 a0 o0)) (hS : va_S A s.heap H locs) (hl : lv_has ls 2 [(0, .ref h0)]) : W p l e ({ frames := 5, cells := (gC (phSB os) (phSB r)), slots := (gS (phSB os) (phSB r)), locals := 146 }) s m AR below meth c H locs (gC (phSB os) (phSB o0)) (gS (phSB os) (phSB o0)) (MQ below (va_Qr (fun (_ : Nat → Nat) => True) (fun (u : Nat → Nat) q t => cf_At D A (wSB K h0 u r) t ∧ q = h0) A) AR s (gC (phSB os) (phSB r)) (gS (phSB os) (phSB r)) A) (F0 m 5 ls [.ref h0]) := by
  obtain ⟨⟨hx, hb, hr, hts, hown, hlocks, hin, hml⟩, hE, hA⟩ := id C
  have hK := hE.k
  refine lv_pop hx hb dSB_appendS_5 rfl ?_
  refine lv_aload_n hx hb dSB_appendS_6 rfl (lv_at hl 0 rfl) ?_
  obtain rfl := Option.some.inj h
  exact dc_aretG a0 hx hb hr ⟨_, rfl⟩ hlocks hP hD hS dSB_appendS_7
set_option maxHeartbeats 4000000 in
set_option maxRecDepth 100000 in
theorem bSB_appendS_S15_0 {p : Program} {l : Launch} {e : Env} {s : State} {m : MethodId} {below : List Frame} {meth : Method} {c : Code} {A : Nat → Prop} {D : va_G} {K : Nat → ClassId} {h0 : Nat} {os : cf_O} {AR : Array Value} (C : (dc_C p s m AR meth c cSB_appendS 2 (Option.some (Jvm.ClassFile.FieldType.object "java/lang/StringBuilder")) ySB_appendS ∧ cf_E D K A s s.heap ∧ ∀ q, s.heap.size ≤ q → A q)) (o0 : cf_O) (r : cf_O) (h : fSB_appendS_S15_0 o0 = some r) {a0 : Nat → Nat} {H : Heap} {locs : List Loc} {ls : Array Slot} (hg : phSB os ≤ phSB o0) (hP : va_P D vwCl (wSB K h0 a0 o0) H) (hD : va_D A (wSB K h0 a0 o0)) (hS : va_S A s.heap H locs) (hl : lv_has ls 2 [(0, .ref h0), (1, .ref (K 115))]) : W p l e ({ frames := 5, cells := (gC (phSB os) (phSB r)), slots := (gS (phSB os) (phSB r)), locals := 146 }) s m AR below meth c H locs (gC (phSB os) (phSB o0)) (gS (phSB os) (phSB o0)) (MQ below (va_Qr (fun (_ : Nat → Nat) => True) (fun (u : Nat → Nat) q t => cf_At D A (wSB K h0 u r) t ∧ q = h0) A) AR s (gC (phSB os) (phSB r)) (gS (phSB os) (phSB r)) A) (F0 m 0 ls []) := by
  obtain ⟨⟨hx, hb, hr, hts, hown, hlocks, hin, hml⟩, hE, hA⟩ := id C
  have hK := hE.k
  refine lv_aload_n hx hb dSB_appendS_0 rfl (lv_at hl 0 rfl) ?_
  refine lv_aload_n hx hb dSB_appendS_1 rfl (lv_at hl 1 rfl) ?_
  obtain ⟨q_1, hq_1, h⟩ := op_b h
  have hgr_2 : phSB q_1 ≤ phSB r := nSB_appendS_S15_5 _ _ h
  have hg2_3 : phSB o0 ≤ phSB q_1 := nAS_appendS_S15 _ _ hq_1
  refine cf_callR (wc := wSB K h0 a0 o0) (wr := []) (va_runSU (hK.1 13 _ rfl).2 (As := [.ref (K 115)]) (rest := []) ⟨hx, hb, hml, hown, hts⟩ (mAS_appendS_S15 l D K _ h0 a0 o0 _ hq_1) (cf_cwSU 1 hts (cf_G1 wv_1560) rfl rfl rfl (hts _ wv_1558) (hts _ wv_2788) (hts _ wv_466) (hts _ wv_1559) (hts _ wv_166) (by decide +kernel) ⟨Nat.le_of_ble_eq_true rfl, Nat.le_of_ble_eq_true rfl⟩) (cf_preV (wc := wSB K h0 a0 o0) hE hP hD hS hA rfl 0 rfl [0, 1] rfl (by decide +kernel)) rfl rfl hl.1 rfl (lv_room (Nat.le_of_ble_eq_true rfl)) dSB_appendS_2 ⟨Nat.le_trans (gC_add hg hg2_3) (gC_le hgr_2), Nat.le_trans (gS_add hg hg2_3) (gS_le hgr_2)⟩) hP hD hS hA [0, 1] [] rfl rfl (by decide +kernel) (by decide +kernel) (fun a0_5 H locs hw_4 hP hD hS => ?_)
  have hP : va_P D vwCl (wSB K h0 a0_5 q_1) H := hP.sub [0, 1] rfl
  have hD : va_D A (wSB K h0 a0_5 q_1) := hD.sub [0, 1] (by decide +kernel) rfl
  refine W.widen (k := (gC (phSB os) (phSB q_1))) (n := (gS (phSB os) (phSB q_1))) (gC_add hg hg2_3) (gS_add hg hg2_3) ?_
  have hg : phSB os ≤ phSB q_1 := Nat.le_trans hg hg2_3
  exact bSB_appendS_S15_5 C _ _ h hg hP hD hS (lv_sub hl [0] rfl)
set_option maxRecDepth 100000 in
theorem mSB_appendS_S15 (l : Launch) (D : va_G) (K : Nat → ClassId) (sz : Nat) (h0 : Nat) (a0 : Nat → Nat) (o0 : cf_O) (r : cf_O) (h : fSB_appendS_S15 o0 = some r) : Met l ySB_appendS (Cond.code ySB_appendS cSB_appendS 2 (Option.some (Jvm.ClassFile.FieldType.object "java/lang/StringBuilder")) :: cfB) ({ frames := 5, cells := (gC (phSB o0) (phSB r)), slots := (gS (phSB o0) (phSB r)), locals := 146 }) (va_Pc [.ref h0, .ref (K 115)] (cf_Pre D K sz (wSB K h0 a0 o0))) (va_Qr (fun (_ : Nat → Nat) => True) (fun (u : Nat → Nat) q t => cf_At D (va_A (wSB K h0 a0 o0) sz) (wSB K h0 u r) t ∧ q = h0) (va_A (wSB K h0 a0 o0) sz)) (gC (phSB o0) (phSB r)) (gS (phSB o0) (phSB r)) (va_A (wSB K h0 a0 o0) sz) := by
  refine cf_ofW (y := ySB_appendS) (As := [.ref h0, .ref (K 115)]) (WS := wSB K h0 a0 o0) (maxL := 2) (fun A => (va_Qr (fun (_ : Nat → Nat) => True) (fun (u : Nat → Nat) q t => cf_At D A (wSB K h0 u r) t ∧ q = h0) A)) (by decide) (Nat.le_of_ble_eq_true rfl) ?_
  intro p e s m below meth c A ls En hsz hA hP hD hE hS hl
  have C : (dc_C p s m (([.ref h0, .ref (K 115)] : List Value).toArray) meth c cSB_appendS 2 (Option.some (Jvm.ClassFile.FieldType.object "java/lang/StringBuilder")) ySB_appendS ∧ cf_E D K A s s.heap ∧ ∀ q, s.heap.size ≤ q → A q) := ⟨En, hE, hA⟩
  refine W.widen (k := gC (phSB o0) (phSB o0)) (n := gS (phSB o0) (phSB o0)) (Nat.zero_le _) (Nat.zero_le _) ?_
  exact bSB_appendS_S15_0 C o0 r h (Nat.le_refl _) hP hD hS hl
set_option maxRecDepth 100000 in
theorem nSc_writeResult_101 (o0 : cf_O) (o1 : cf_O) (o2 : cf_O) (r : cf_O) (h : fSc_writeResult_101 o0 o1 o2 = some r) : phSB o2 ≤ phSB r := by
  have hm : phSB o2 ≤ phSB o2 := Nat.le_refl _
  obtain rfl := Option.some.inj h
  exact hm
set_option maxRecDepth 100000 in
theorem nSc_writeResult_100 (o0 : cf_O) (o1 : cf_O) (o2 : cf_O) (r : cf_O) (h : fSc_writeResult_100 o0 o1 o2 = some r) : phSB o2 ≤ phSB r := by
  have hm : phSB o2 ≤ phSB o2 := Nat.le_refl _
  exact Nat.le_trans hm (nSc_writeResult_101 _ _ _ _ h)
set_option maxRecDepth 100000 in
theorem nSc_writeResult_91 (o0 : cf_O) (o1 : cf_O) (o2 : cf_O) (r : cf_O) (h : fSc_writeResult_91 o0 o1 o2 = some r) : phSB o2 ≤ phSB r := by
  have hm : phSB o2 ≤ phSB o2 := Nat.le_refl _
  obtain ⟨q_1, hq_1, h⟩ := op_b h
  have hm : phSB o2 ≤ phSB q_1 := Nat.le_trans hm (nSB_appendS_S15 _ _ hq_1)
  exact Nat.le_trans hm (nSc_writeResult_100 _ _ _ _ h)
set_option maxRecDepth 100000 in
theorem nSc_writeResult_77 (o0 : cf_O) (o1 : cf_O) (o2 : cf_O) (r : cf_O) (h : fSc_writeResult_77 o0 o1 o2 = some r) : phSB o2 ≤ phSB r := by
  have hm : phSB o2 ≤ phSB o2 := Nat.le_refl _
  exact Nat.le_trans hm (nSc_writeResult_101 _ _ _ _ h)
set_option maxRecDepth 100000 in
theorem nSc_writeResult_52 (v3 : Int32) (v4 : Int32) (v5 : Int32) (o0 : cf_O) (o1 : cf_O) (o2 : cf_O) (r : cf_O) (h : fSc_writeResult_52 v3 v4 v5 o0 o1 o2 = some r) : phSB o2 ≤ phSB r := by
  have hm : phSB o2 ≤ phSB o2 := Nat.le_refl _
  rcases (Classical.em (v5 = (0 : Int32))).symm with c_1 | c_1
  · have h := op_f c_1 h
    rcases (Classical.em (v3 = (1 : Int32))) with c_2 | c_2
    · have h := op_t c_2 h
      exact Nat.le_trans hm (nSc_writeResult_91 _ _ _ _ h)
    · have h := op_f c_2 h
      rcases (Classical.em (v4 = (0 : Int32))) with c_3 | c_3
      · have h := op_t c_3 h
        exact Nat.le_trans hm (nSc_writeResult_101 _ _ _ _ h)
      · have h := op_f c_3 h
        exact Nat.le_trans hm (nSc_writeResult_91 _ _ _ _ h)
  · have h := op_t c_1 h
    rcases (Classical.em (v4 = (0 : Int32))) with c_4 | c_4
    · have h := op_t c_4 h
      obtain ⟨q_5, hq_5, h⟩ := op_b h
      have hm : phSB o2 ≤ phSB q_5 := Nat.le_trans hm (nSB_appendS_S14 _ _ hq_5)
      exact Nat.le_trans hm (nSc_writeResult_77 _ _ _ _ h)
    · have h := op_f c_4 h
      obtain ⟨q_10, hq_10, h⟩ := op_b h
      have hm : phSB o2 ≤ phSB q_10 := Nat.le_trans hm (nSB_appendS_S13 _ _ hq_10)
      exact Nat.le_trans hm (nSc_writeResult_77 _ _ _ _ h)
set_option maxRecDepth 100000 in
theorem nSc_writeResult_43 (v3 : Int32) (v4 : Int32) (v5 : Int32) (o0 : cf_O) (o1 : cf_O) (o2 : cf_O) (r : cf_O) (h : fSc_writeResult_43 v3 v4 v5 o0 o1 o2 = some r) : phSB o2 ≤ phSB r := by
  have hm : phSB o2 ≤ phSB o2 := Nat.le_refl _
  obtain ⟨q_1, hq_1, h⟩ := op_b h
  have hm : phSB o2 ≤ phSB q_1 := Nat.le_trans hm (nSB_appendC _ _ _ hq_1)
  exact Nat.le_trans hm (nSc_writeResult_52 _ _ _ _ _ _ _ h)
set_option maxRecDepth 100000 in
theorem nSc_writeResult_33 (v2 : Int32) (v3 : Int32) (v4 : Int32) (v5 : Int32) (o0 : cf_O) (o1 : cf_O) (o2 : cf_O) (r : cf_O) (h : fSc_writeResult_33 v2 v3 v4 v5 o0 o1 o2 = some r) : phSB o2 ≤ phSB r := by
  have hm : phSB o2 ≤ phSB o2 := Nat.le_refl _
  obtain ⟨hi_1, h⟩ := op_n h
  obtain ⟨x_2, ex_2, h⟩ := op_kx h
  obtain ⟨q_3, hq_3, h⟩ := op_b h
  have hm : phSB o2 ≤ phSB q_3 := Nat.le_trans hm (nSc_writeName _ _ _ _ hq_3)
  exact Nat.le_trans hm (nSc_writeResult_43 _ _ _ _ _ _ _ h)
set_option maxRecDepth 100000 in
theorem nSc_writeResult_21 (v2 : Int32) (v3 : Int32) (v4 : Int32) (v5 : Int32) (o0 : cf_O) (o1 : cf_O) (o2 : cf_O) (r : cf_O) (h : fSc_writeResult_21 v2 v3 v4 v5 o0 o1 o2 = some r) : phSB o2 ≤ phSB r := by
  have hm : phSB o2 ≤ phSB o2 := Nat.le_refl _
  rcases (Classical.em (v5 = (0 : Int32))).symm with c_1 | c_1
  · have h := op_f c_1 h
    exact Nat.le_trans hm (nSc_writeResult_33 _ _ _ _ _ _ _ _ h)
  · have h := op_t c_1 h
    obtain ⟨q_2, hq_2, h⟩ := op_b h
    have hm : phSB o2 ≤ phSB q_2 := Nat.le_trans hm (nSc_writeLiteral _ _ _ _ _ hq_2)
    exact Nat.le_trans hm (nSc_writeResult_33 _ _ _ _ _ _ _ _ h)
set_option maxRecDepth 100000 in
theorem nSc_writeResult_10 (v2 : Int32) (v3 : Int32) (v4 : Int32) (s0 : Int32) (o0 : cf_O) (o1 : cf_O) (o2 : cf_O) (r : cf_O) (h : fSc_writeResult_10 v2 v3 v4 s0 o0 o1 o2 = some r) : phSB o2 ≤ phSB r := by
  have hm : phSB o2 ≤ phSB o2 := Nat.le_refl _
  obtain ⟨q_1, hq_1, h⟩ := op_b h
  have hm : phSB o2 ≤ phSB q_1 := Nat.le_trans hm (nSB_appendS_S12 _ _ hq_1)
  exact Nat.le_trans hm (nSc_writeResult_21 _ _ _ _ _ _ _ _ h)
set_option maxRecDepth 100000 in
theorem nSc_writeResult_0 (v2 : Int32) (v3 : Int32) (v4 : Int32) (o0 : cf_O) (o1 : cf_O) (o2 : cf_O) (r : cf_O) (h : fSc_writeResult_0 v2 v3 v4 o0 o1 o2 = some r) : phSB o2 ≤ phSB r := by
  have hm : phSB o2 ≤ phSB o2 := Nat.le_refl _
  rcases (Classical.em ((2 : Int32) ≤ v3)) with c_1 | c_1
  · have h := op_t c_1 h
    exact Nat.le_trans hm (nSc_writeResult_10 _ _ _ _ _ _ _ _ h)
  · have h := op_f c_1 h
    exact Nat.le_trans hm (nSc_writeResult_10 _ _ _ _ _ _ _ _ h)
theorem nSc_writeResult (v2 : Int32) (v3 : Int32) (v4 : Int32) (o0 : cf_O) (o1 : cf_O) (o2 : cf_O) (r : cf_O) (h : fSc_writeResult v2 v3 v4 o0 o1 o2 = some r) : phSB o2 ≤ phSB r := nSc_writeResult_0  v2 v3 v4 o0 o1 o2 r h
set_option maxHeartbeats 4000000 in
set_option maxRecDepth 100000 in
theorem bSc_writeResult_101 {p : Program} {l : Launch} {e : Env} {s : State} {m : MethodId} {below : List Frame} {meth : Method} {c : Code} {A : Nat → Prop} {D : va_G} {K : Nat → ClassId} {h0 : Nat} {h1 : Nat} {a1 : Nat → Nat} {h2 : Nat} {os : cf_O} {AR : Array Value} (C : (dc_C p s m AR meth c cSc_writeResult 6 (Option.none : Option Jvm.ClassFile.FieldType) ySc_writeResult ∧ cf_E D K A s s.heap ∧ ∀ q, s.heap.size ≤ q → A q)) (o0 : cf_O) (o1 : cf_O) (o2 : cf_O) (r : cf_O) (h : fSc_writeResult_101 o0 o1 o2 = some r) {a2 : Nat → Nat} {H : Heap} {locs : List Loc} {ls : Array Slot} (hg : phSB os ≤ phSB o2) (hP : va_P D vwCl (wSc K h0 (fun _ => h2) o0 ++ wNl K h1 a1 o1 ++ wSB K h2 a2 o2) H) (hD : va_D A (wSc K h0 (fun _ => h2) o0 ++ wNl K h1 a1 o1 ++ wSB K h2 a2 o2)) (hS : va_S A s.heap H locs) (hl : lv_has ls 6 []) : W p l e ({ frames := 8, cells := (gC (phSB os) (phSB r)), slots := (gS (phSB os) (phSB r)), locals := 213 }) s m AR below meth c H locs (gC (phSB os) (phSB o2)) (gS (phSB os) (phSB o2)) (MQ below (va_Qv (fun (_ : Nat → Nat) => True) (fun (u : Nat → Nat) t => cf_At D A (wSc K h0 (fun _ => h2) o0 ++ wNl K h1 a1 o1 ++ wSB K h2 u r) t) A) AR s (gC (phSB os) (phSB r)) (gS (phSB os) (phSB r)) A) (F0 m 101 ls []) := by
  obtain ⟨⟨hx, hb, hr, hts, hown, hlocks, hin, hml⟩, hE, hA⟩ := id C
  have hK := hE.k
  obtain rfl := Option.some.inj h
  exact dc_vretG a2 hx hb hr hlocks hP hD hS dSc_writeResult_101
set_option maxHeartbeats 4000000 in
set_option maxRecDepth 100000 in
theorem bSc_writeResult_100 {p : Program} {l : Launch} {e : Env} {s : State} {m : MethodId} {below : List Frame} {meth : Method} {c : Code} {A : Nat → Prop} {D : va_G} {K : Nat → ClassId} {h0 : Nat} {h1 : Nat} {a1 : Nat → Nat} {h2 : Nat} {os : cf_O} {AR : Array Value} (C : (dc_C p s m AR meth c cSc_writeResult 6 (Option.none : Option Jvm.ClassFile.FieldType) ySc_writeResult ∧ cf_E D K A s s.heap ∧ ∀ q, s.heap.size ≤ q → A q)) (o0 : cf_O) (o1 : cf_O) (o2 : cf_O) (r : cf_O) (h : fSc_writeResult_100 o0 o1 o2 = some r) {a2 : Nat → Nat} {H : Heap} {locs : List Loc} {ls : Array Slot} (hg : phSB os ≤ phSB o2) (hP : va_P D vwCl (wSc K h0 (fun _ => h2) o0 ++ wNl K h1 a1 o1 ++ wSB K h2 a2 o2) H) (hD : va_D A (wSc K h0 (fun _ => h2) o0 ++ wNl K h1 a1 o1 ++ wSB K h2 a2 o2)) (hS : va_S A s.heap H locs) (hl : lv_has ls 6 []) : W p l e ({ frames := 8, cells := (gC (phSB os) (phSB r)), slots := (gS (phSB os) (phSB r)), locals := 213 }) s m AR below meth c H locs (gC (phSB os) (phSB o2)) (gS (phSB os) (phSB o2)) (MQ below (va_Qv (fun (_ : Nat → Nat) => True) (fun (u : Nat → Nat) t => cf_At D A (wSc K h0 (fun _ => h2) o0 ++ wNl K h1 a1 o1 ++ wSB K h2 u r) t) A) AR s (gC (phSB os) (phSB r)) (gS (phSB os) (phSB r)) A) (F0 m 100 ls [.ref h2]) := by
  obtain ⟨⟨hx, hb, hr, hts, hown, hlocks, hin, hml⟩, hE, hA⟩ := id C
  have hK := hE.k
  refine lv_pop hx hb dSc_writeResult_100 rfl ?_
  exact bSc_writeResult_101 C _ _ _ _ h hg hP hD hS (lv_sub hl [] rfl)
set_option maxHeartbeats 4000000 in
set_option maxRecDepth 100000 in
theorem bSc_writeResult_91 {p : Program} {l : Launch} {e : Env} {s : State} {m : MethodId} {below : List Frame} {meth : Method} {c : Code} {A : Nat → Prop} {D : va_G} {K : Nat → ClassId} {h0 : Nat} {h1 : Nat} {a1 : Nat → Nat} {h2 : Nat} {os : cf_O} {AR : Array Value} (C : (dc_C p s m AR meth c cSc_writeResult 6 (Option.none : Option Jvm.ClassFile.FieldType) ySc_writeResult ∧ cf_E D K A s s.heap ∧ ∀ q, s.heap.size ≤ q → A q)) (o0 : cf_O) (o1 : cf_O) (o2 : cf_O) (r : cf_O) (h : fSc_writeResult_91 o0 o1 o2 = some r) {a2 : Nat → Nat} {H : Heap} {locs : List Loc} {ls : Array Slot} (hg : phSB os ≤ phSB o2) (hP : va_P D vwCl (wSc K h0 (fun _ => h2) o0 ++ wNl K h1 a1 o1 ++ wSB K h2 a2 o2) H) (hD : va_D A (wSc K h0 (fun _ => h2) o0 ++ wNl K h1 a1 o1 ++ wSB K h2 a2 o2)) (hS : va_S A s.heap H locs) (hl : lv_has ls 6 [(0, .ref h0)]) : W p l e ({ frames := 8, cells := (gC (phSB os) (phSB r)), slots := (gS (phSB os) (phSB r)), locals := 213 }) s m AR below meth c H locs (gC (phSB os) (phSB o2)) (gS (phSB os) (phSB o2)) (MQ below (va_Qv (fun (_ : Nat → Nat) => True) (fun (u : Nat → Nat) t => cf_At D A (wSc K h0 (fun _ => h2) o0 ++ wNl K h1 a1 o1 ++ wSB K h2 u r) t) A) AR s (gC (phSB os) (phSB r)) (gS (phSB os) (phSB r)) A) (F0 m 91 ls []) := by
  obtain ⟨⟨hx, hb, hr, hts, hown, hlocks, hin, hml⟩, hE, hA⟩ := id C
  have hK := hE.k
  refine lv_aload_n hx hb dSc_writeResult_91 rfl (lv_at hl 0 rfl) ?_
  refine va_get (D := D) (ci := 10) (v := .ref h2) (C := RSc) (T := TSc) (N := 2) hx hb hts inSc hown hK hP 0 rfl rfl 1 (by decide) (hts _ wv_469) (fun _ h9 => h9) rfl dSc_writeResult_92 ?_
  refine va_ldcS hx hb hown (hE.s 15 rfl).1 dSc_writeResult_95 ?_
  obtain ⟨q_1, hq_1, h⟩ := op_b h
  have hgr_2 : phSB q_1 ≤ phSB r := nSc_writeResult_100 _ _ _ _ h
  have hg2_3 : phSB o2 ≤ phSB q_1 := nSB_appendS_S15 _ _ hq_1
  refine cf_callR (wc := wSB K h2 a2 o2) (wr := wSc K h0 (fun _ => h2) o0 ++ wNl K h1 a1 o1) (va_runV (As := [.ref (K 115)]) (rest := []) ⟨hx, hb, hml, hown, hts⟩ (mSB_appendS_S15 l D K _ h2 a2 o2 _ hq_1) (cwV 1 hts (cf_GV wv_1793 wv_1555 wv_1556 wv_167 wv_1557) rfl rfl rfl (by decide +kernel) ⟨Nat.le_of_ble_eq_true rfl, Nat.le_of_ble_eq_true rfl⟩) (cf_preV (wc := wSB K h2 a2 o2) hE hP hD hS hA rfl 14 rfl [14, 15] rfl (by decide +kernel)) rfl rfl hl.1 rfl (lv_room (Nat.le_of_ble_eq_true rfl)) dSc_writeResult_97 ⟨Nat.le_trans (gC_add hg hg2_3) (gC_le hgr_2), Nat.le_trans (gS_add hg hg2_3) (gS_le hgr_2)⟩) hP hD hS hA [14, 15] [0, 1, 2, 3, 4, 5, 6, 7, 8, 9, 10, 11, 12, 13] rfl rfl (by decide +kernel) (by decide +kernel) (fun a2_5 H locs hw_4 hP hD hS => ?_)
  have hP : va_P D vwCl (wSc K h0 (fun _ => h2) o0 ++ wNl K h1 a1 o1 ++ wSB K h2 a2_5 q_1) H := hP.sub [0, 1, 2, 3, 4, 5, 6, 7, 8, 9, 10, 11, 12, 13, 14, 15] rfl
  have hD : va_D A (wSc K h0 (fun _ => h2) o0 ++ wNl K h1 a1 o1 ++ wSB K h2 a2_5 q_1) := hD.sub [0, 1, 2, 3, 4, 5, 6, 7, 8, 9, 10, 11, 12, 13, 14, 15] (by decide +kernel) rfl
  refine W.widen (k := (gC (phSB os) (phSB q_1))) (n := (gS (phSB os) (phSB q_1))) (gC_add hg hg2_3) (gS_add hg hg2_3) ?_
  have hg : phSB os ≤ phSB q_1 := Nat.le_trans hg hg2_3
  exact bSc_writeResult_100 C _ _ _ _ h hg hP hD hS (lv_sub hl [] rfl)
set_option maxHeartbeats 4000000 in
set_option maxRecDepth 100000 in
theorem bSc_writeResult_77 {p : Program} {l : Launch} {e : Env} {s : State} {m : MethodId} {below : List Frame} {meth : Method} {c : Code} {A : Nat → Prop} {D : va_G} {K : Nat → ClassId} {h0 : Nat} {h1 : Nat} {a1 : Nat → Nat} {h2 : Nat} {os : cf_O} {AR : Array Value} (C : (dc_C p s m AR meth c cSc_writeResult 6 (Option.none : Option Jvm.ClassFile.FieldType) ySc_writeResult ∧ cf_E D K A s s.heap ∧ ∀ q, s.heap.size ≤ q → A q)) (o0 : cf_O) (o1 : cf_O) (o2 : cf_O) (r : cf_O) (h : fSc_writeResult_77 o0 o1 o2 = some r) {a2 : Nat → Nat} {H : Heap} {locs : List Loc} {ls : Array Slot} (hg : phSB os ≤ phSB o2) (hP : va_P D vwCl (wSc K h0 (fun _ => h2) o0 ++ wNl K h1 a1 o1 ++ wSB K h2 a2 o2) H) (hD : va_D A (wSc K h0 (fun _ => h2) o0 ++ wNl K h1 a1 o1 ++ wSB K h2 a2 o2)) (hS : va_S A s.heap H locs) (hl : lv_has ls 6 []) : W p l e ({ frames := 8, cells := (gC (phSB os) (phSB r)), slots := (gS (phSB os) (phSB r)), locals := 213 }) s m AR below meth c H locs (gC (phSB os) (phSB o2)) (gS (phSB os) (phSB o2)) (MQ below (va_Qv (fun (_ : Nat → Nat) => True) (fun (u : Nat → Nat) t => cf_At D A (wSc K h0 (fun _ => h2) o0 ++ wNl K h1 a1 o1 ++ wSB K h2 u r) t) A) AR s (gC (phSB os) (phSB r)) (gS (phSB os) (phSB r)) A) (F0 m 77 ls [.ref h2]) := by
  obtain ⟨⟨hx, hb, hr, hts, hown, hlocks, hin, hml⟩, hE, hA⟩ := id C
  have hK := hE.k
  refine lv_pop hx hb dSc_writeResult_77 rfl ?_
  refine lv_goto (tgt := 101) hx hb dSc_writeResult_78 (by decide) ?_
  exact bSc_writeResult_101 C _ _ _ _ h hg hP hD hS (lv_sub hl [] rfl)
set_option maxHeartbeats 4000000 in
set_option maxRecDepth 100000 in
theorem bSc_writeResult_52 {p : Program} {l : Launch} {e : Env} {s : State} {m : MethodId} {below : List Frame} {meth : Method} {c : Code} {A : Nat → Prop} {D : va_G} {K : Nat → ClassId} {h0 : Nat} {h1 : Nat} {a1 : Nat → Nat} {h2 : Nat} {os : cf_O} {AR : Array Value} (C : (dc_C p s m AR meth c cSc_writeResult 6 (Option.none : Option Jvm.ClassFile.FieldType) ySc_writeResult ∧ cf_E D K A s s.heap ∧ ∀ q, s.heap.size ≤ q → A q)) (v3 : Int32) (v4 : Int32) (v5 : Int32) (o0 : cf_O) (o1 : cf_O) (o2 : cf_O) (r : cf_O) (h : fSc_writeResult_52 v3 v4 v5 o0 o1 o2 = some r) {a2 : Nat → Nat} {H : Heap} {locs : List Loc} {ls : Array Slot} (hg : phSB os ≤ phSB o2) (hP : va_P D vwCl (wSc K h0 (fun _ => h2) o0 ++ wNl K h1 a1 o1 ++ wSB K h2 a2 o2) H) (hD : va_D A (wSc K h0 (fun _ => h2) o0 ++ wNl K h1 a1 o1 ++ wSB K h2 a2 o2)) (hS : va_S A s.heap H locs) (hl : lv_has ls 6 [(0, .ref h0), (3, .int v3), (4, .int v4), (5, .int v5)]) : W p l e ({ frames := 8, cells := (gC (phSB os) (phSB r)), slots := (gS (phSB os) (phSB r)), locals := 213 }) s m AR below meth c H locs (gC (phSB os) (phSB o2)) (gS (phSB os) (phSB o2)) (MQ below (va_Qv (fun (_ : Nat → Nat) => True) (fun (u : Nat → Nat) t => cf_At D A (wSc K h0 (fun _ => h2) o0 ++ wNl K h1 a1 o1 ++ wSB K h2 u r) t) A) AR s (gC (phSB os) (phSB r)) (gS (phSB os) (phSB r)) A) (F0 m 52 ls [.ref h2]) := by
  obtain ⟨⟨hx, hb, hr, hts, hown, hlocks, hin, hml⟩, hE, hA⟩ := id C
  have hK := hE.k
  refine lv_pop hx hb dSc_writeResult_52 rfl ?_
  refine lv_iload hx hb dSc_writeResult_53 (lv_at hl 3 rfl) ?_
  refine lv_if_ne (tgt := 81) hx hb dSc_writeResult_55 (by decide) (fun c_1 => ?_) (fun c_1 => ?_)
  · have h := op_f c_1 h
    refine lv_iload_n hx hb dSc_writeResult_81 rfl (lv_at hl 1 rfl) ?_
    refine lv_iconst (v := 1) hx hb dSc_writeResult_82 (by decide) ?_
    refine lv_icmp_eq (tgt := 91) hx hb dSc_writeResult_83 (by decide) (fun c_2 => ?_) (fun c_2 => ?_)
    · have h := op_t c_2 h
      exact bSc_writeResult_91 C _ _ _ _ h hg hP hD hS (lv_sub hl [0] rfl)
    · have h := op_f c_2 h
      refine lv_iload hx hb dSc_writeResult_86 (lv_at hl 2 rfl) ?_
      refine lv_if_eq (tgt := 101) hx hb dSc_writeResult_88 (by decide) (fun c_3 => ?_) (fun c_3 => ?_)
      · have h := op_t c_3 h
        exact bSc_writeResult_101 C _ _ _ _ h hg hP hD hS (lv_sub hl [] rfl)
      · have h := op_f c_3 h
        exact bSc_writeResult_91 C _ _ _ _ h hg hP hD hS (lv_sub hl [0] rfl)
  · have h := op_t c_1 h
    refine lv_aload_n hx hb dSc_writeResult_58 rfl (lv_at hl 0 rfl) ?_
    refine va_get (D := D) (ci := 10) (v := .ref h2) (C := RSc) (T := TSc) (N := 2) hx hb hts inSc hown hK hP 0 rfl rfl 1 (by decide) (hts _ wv_469) (fun _ h9 => h9) rfl dSc_writeResult_59 ?_
    refine lv_iload hx hb dSc_writeResult_62 (lv_at hl 2 rfl) ?_
    refine lv_if_eq (tgt := 72) hx hb dSc_writeResult_64 (by decide) (fun c_4 => ?_) (fun c_4 => ?_)
    · have h := op_t c_4 h
      refine va_ldcS hx hb hown (hE.s 14 rfl).1 dSc_writeResult_72 ?_
      obtain ⟨q_5, hq_5, h⟩ := op_b h
      have hgr_6 : phSB q_5 ≤ phSB r := nSc_writeResult_77 _ _ _ _ h
      have hg2_7 : phSB o2 ≤ phSB q_5 := nSB_appendS_S14 _ _ hq_5
      refine cf_callR (wc := wSB K h2 a2 o2) (wr := wSc K h0 (fun _ => h2) o0 ++ wNl K h1 a1 o1) (va_runV (As := [.ref (K 114)]) (rest := []) ⟨hx, hb, hml, hown, hts⟩ (mSB_appendS_S14 l D K _ h2 a2 o2 _ hq_5) (cwV 1 hts (cf_GV wv_1793 wv_1555 wv_1556 wv_167 wv_1557) rfl rfl rfl (by decide +kernel) ⟨Nat.le_of_ble_eq_true rfl, Nat.le_of_ble_eq_true rfl⟩) (cf_preV (wc := wSB K h2 a2 o2) hE hP hD hS hA rfl 14 rfl [14, 15] rfl (by decide +kernel)) rfl rfl hl.1 rfl (lv_room (Nat.le_of_ble_eq_true rfl)) dSc_writeResult_74 ⟨Nat.le_trans (gC_add hg hg2_7) (gC_le hgr_6), Nat.le_trans (gS_add hg hg2_7) (gS_le hgr_6)⟩) hP hD hS hA [14, 15] [0, 1, 2, 3, 4, 5, 6, 7, 8, 9, 10, 11, 12, 13] rfl rfl (by decide +kernel) (by decide +kernel) (fun a2_9 H locs hw_8 hP hD hS => ?_)
      have hP : va_P D vwCl (wSc K h0 (fun _ => h2) o0 ++ wNl K h1 a1 o1 ++ wSB K h2 a2_9 q_5) H := hP.sub [0, 1, 2, 3, 4, 5, 6, 7, 8, 9, 10, 11, 12, 13, 14, 15] rfl
      have hD : va_D A (wSc K h0 (fun _ => h2) o0 ++ wNl K h1 a1 o1 ++ wSB K h2 a2_9 q_5) := hD.sub [0, 1, 2, 3, 4, 5, 6, 7, 8, 9, 10, 11, 12, 13, 14, 15] (by decide +kernel) rfl
      refine W.widen (k := (gC (phSB os) (phSB q_5))) (n := (gS (phSB os) (phSB q_5))) (gC_add hg hg2_7) (gS_add hg hg2_7) ?_
      have hg : phSB os ≤ phSB q_5 := Nat.le_trans hg hg2_7
      exact bSc_writeResult_77 C _ _ _ _ h hg hP hD hS (lv_sub hl [] rfl)
    · have h := op_f c_4 h
      refine va_ldcS hx hb hown (hE.s 13 rfl).1 dSc_writeResult_67 ?_
      refine lv_goto (tgt := 74) hx hb dSc_writeResult_69 (by decide) ?_
      obtain ⟨q_10, hq_10, h⟩ := op_b h
      have hgr_11 : phSB q_10 ≤ phSB r := nSc_writeResult_77 _ _ _ _ h
      have hg2_12 : phSB o2 ≤ phSB q_10 := nSB_appendS_S13 _ _ hq_10
      refine cf_callR (wc := wSB K h2 a2 o2) (wr := wSc K h0 (fun _ => h2) o0 ++ wNl K h1 a1 o1) (va_runV (As := [.ref (K 113)]) (rest := []) ⟨hx, hb, hml, hown, hts⟩ (mSB_appendS_S13 l D K _ h2 a2 o2 _ hq_10) (cwV 1 hts (cf_GV wv_1793 wv_1555 wv_1556 wv_167 wv_1557) rfl rfl rfl (by decide +kernel) ⟨Nat.le_of_ble_eq_true rfl, Nat.le_of_ble_eq_true rfl⟩) (cf_preV (wc := wSB K h2 a2 o2) hE hP hD hS hA rfl 14 rfl [14, 15] rfl (by decide +kernel)) rfl rfl hl.1 rfl (lv_room (Nat.le_of_ble_eq_true rfl)) dSc_writeResult_74 ⟨Nat.le_trans (gC_add hg hg2_12) (gC_le hgr_11), Nat.le_trans (gS_add hg hg2_12) (gS_le hgr_11)⟩) hP hD hS hA [14, 15] [0, 1, 2, 3, 4, 5, 6, 7, 8, 9, 10, 11, 12, 13] rfl rfl (by decide +kernel) (by decide +kernel) (fun a2_14 H locs hw_13 hP hD hS => ?_)
      have hP : va_P D vwCl (wSc K h0 (fun _ => h2) o0 ++ wNl K h1 a1 o1 ++ wSB K h2 a2_14 q_10) H := hP.sub [0, 1, 2, 3, 4, 5, 6, 7, 8, 9, 10, 11, 12, 13, 14, 15] rfl
      have hD : va_D A (wSc K h0 (fun _ => h2) o0 ++ wNl K h1 a1 o1 ++ wSB K h2 a2_14 q_10) := hD.sub [0, 1, 2, 3, 4, 5, 6, 7, 8, 9, 10, 11, 12, 13, 14, 15] (by decide +kernel) rfl
      refine W.widen (k := (gC (phSB os) (phSB q_10))) (n := (gS (phSB os) (phSB q_10))) (gC_add hg hg2_12) (gS_add hg hg2_12) ?_
      have hg : phSB os ≤ phSB q_10 := Nat.le_trans hg hg2_12
      exact bSc_writeResult_77 C _ _ _ _ h hg hP hD hS (lv_sub hl [] rfl)
set_option maxHeartbeats 4000000 in
set_option maxRecDepth 100000 in
theorem bSc_writeResult_43 {p : Program} {l : Launch} {e : Env} {s : State} {m : MethodId} {below : List Frame} {meth : Method} {c : Code} {A : Nat → Prop} {D : va_G} {K : Nat → ClassId} {h0 : Nat} {h1 : Nat} {a1 : Nat → Nat} {h2 : Nat} {os : cf_O} {AR : Array Value} (C : (dc_C p s m AR meth c cSc_writeResult 6 (Option.none : Option Jvm.ClassFile.FieldType) ySc_writeResult ∧ cf_E D K A s s.heap ∧ ∀ q, s.heap.size ≤ q → A q)) (v3 : Int32) (v4 : Int32) (v5 : Int32) (o0 : cf_O) (o1 : cf_O) (o2 : cf_O) (r : cf_O) (h : fSc_writeResult_43 v3 v4 v5 o0 o1 o2 = some r) {a2 : Nat → Nat} {H : Heap} {locs : List Loc} {ls : Array Slot} (hg : phSB os ≤ phSB o2) (hP : va_P D vwCl (wSc K h0 (fun _ => h2) o0 ++ wNl K h1 a1 o1 ++ wSB K h2 a2 o2) H) (hD : va_D A (wSc K h0 (fun _ => h2) o0 ++ wNl K h1 a1 o1 ++ wSB K h2 a2 o2)) (hS : va_S A s.heap H locs) (hl : lv_has ls 6 [(0, .ref h0), (3, .int v3), (4, .int v4), (5, .int v5)]) : W p l e ({ frames := 8, cells := (gC (phSB os) (phSB r)), slots := (gS (phSB os) (phSB r)), locals := 213 }) s m AR below meth c H locs (gC (phSB os) (phSB o2)) (gS (phSB os) (phSB o2)) (MQ below (va_Qv (fun (_ : Nat → Nat) => True) (fun (u : Nat → Nat) t => cf_At D A (wSc K h0 (fun _ => h2) o0 ++ wNl K h1 a1 o1 ++ wSB K h2 u r) t) A) AR s (gC (phSB os) (phSB r)) (gS (phSB os) (phSB r)) A) (F0 m 43 ls []) := by
  obtain ⟨⟨hx, hb, hr, hts, hown, hlocks, hin, hml⟩, hE, hA⟩ := id C
  have hK := hE.k
  refine lv_aload_n hx hb dSc_writeResult_43 rfl (lv_at hl 0 rfl) ?_
  refine va_get (D := D) (ci := 10) (v := .ref h2) (C := RSc) (T := TSc) (N := 2) hx hb hts inSc hown hK hP 0 rfl rfl 1 (by decide) (hts _ wv_469) (fun _ h9 => h9) rfl dSc_writeResult_44 ?_
  refine lv_bipush (v := 10) hx hb dSc_writeResult_47 (by decide) ?_
  obtain ⟨q_1, hq_1, h⟩ := op_b h
  have hgr_2 : phSB q_1 ≤ phSB r := nSc_writeResult_52 _ _ _ _ _ _ _ h
  have hg2_3 : phSB o2 ≤ phSB q_1 := nSB_appendC _ _ _ hq_1
  refine cf_callR (wc := wSB K h2 a2 o2) (wr := wSc K h0 (fun _ => h2) o0 ++ wNl K h1 a1 o1) (va_runV (As := [.int 10]) (rest := []) ⟨hx, hb, hml, hown, hts⟩ (mSB_appendC l D K _ 10 h2 a2 o2 _ hq_1) (cwV 1 hts (cf_GV wv_1798 wv_1799 wv_1800 wv_167 wv_1801) rfl rfl rfl (by decide +kernel) ⟨Nat.le_of_ble_eq_true rfl, Nat.le_of_ble_eq_true rfl⟩) (cf_preV (wc := wSB K h2 a2 o2) hE hP hD hS hA rfl 14 rfl [14, 15] rfl (by decide +kernel)) rfl rfl hl.1 rfl (lv_room (Nat.le_of_ble_eq_true rfl)) dSc_writeResult_49 ⟨Nat.le_trans (gC_add hg hg2_3) (gC_le hgr_2), Nat.le_trans (gS_add hg hg2_3) (gS_le hgr_2)⟩) hP hD hS hA [14, 15] [0, 1, 2, 3, 4, 5, 6, 7, 8, 9, 10, 11, 12, 13] rfl rfl (by decide +kernel) (by decide +kernel) (fun a2_5 H locs hw_4 hP hD hS => ?_)
  have hP : va_P D vwCl (wSc K h0 (fun _ => h2) o0 ++ wNl K h1 a1 o1 ++ wSB K h2 a2_5 q_1) H := hP.sub [0, 1, 2, 3, 4, 5, 6, 7, 8, 9, 10, 11, 12, 13, 14, 15] rfl
  have hD : va_D A (wSc K h0 (fun _ => h2) o0 ++ wNl K h1 a1 o1 ++ wSB K h2 a2_5 q_1) := hD.sub [0, 1, 2, 3, 4, 5, 6, 7, 8, 9, 10, 11, 12, 13, 14, 15] (by decide +kernel) rfl
  refine W.widen (k := (gC (phSB os) (phSB q_1))) (n := (gS (phSB os) (phSB q_1))) (gC_add hg hg2_3) (gS_add hg hg2_3) ?_
  have hg : phSB os ≤ phSB q_1 := Nat.le_trans hg hg2_3
  exact bSc_writeResult_52 C _ _ _ _ _ _ _ h hg hP hD hS (lv_sub hl [0, 1, 2, 3] rfl)
set_option maxHeartbeats 4000000 in
set_option maxRecDepth 100000 in
theorem bSc_writeResult_33 {p : Program} {l : Launch} {e : Env} {s : State} {m : MethodId} {below : List Frame} {meth : Method} {c : Code} {A : Nat → Prop} {D : va_G} {K : Nat → ClassId} {h0 : Nat} {h1 : Nat} {a1 : Nat → Nat} {h2 : Nat} {os : cf_O} {AR : Array Value} (C : (dc_C p s m AR meth c cSc_writeResult 6 (Option.none : Option Jvm.ClassFile.FieldType) ySc_writeResult ∧ cf_E D K A s s.heap ∧ ∀ q, s.heap.size ≤ q → A q)) (v2 : Int32) (v3 : Int32) (v4 : Int32) (v5 : Int32) (o0 : cf_O) (o1 : cf_O) (o2 : cf_O) (r : cf_O) (h : fSc_writeResult_33 v2 v3 v4 v5 o0 o1 o2 = some r) {a2 : Nat → Nat} {H : Heap} {locs : List Loc} {ls : Array Slot} (hg : phSB os ≤ phSB o2) (hP : va_P D vwCl (wSc K h0 (fun _ => h2) o0 ++ wNl K h1 a1 o1 ++ wSB K h2 a2 o2) H) (hD : va_D A (wSc K h0 (fun _ => h2) o0 ++ wNl K h1 a1 o1 ++ wSB K h2 a2 o2)) (hS : va_S A s.heap H locs) (hl : lv_has ls 6 [(0, .ref h0), (1, .ref h1), (2, .int v2), (3, .int v3), (4, .int v4), (5, .int v5)]) : W p l e ({ frames := 8, cells := (gC (phSB os) (phSB r)), slots := (gS (phSB os) (phSB r)), locals := 213 }) s m AR below meth c H locs (gC (phSB os) (phSB o2)) (gS (phSB os) (phSB o2)) (MQ below (va_Qv (fun (_ : Nat → Nat) => True) (fun (u : Nat → Nat) t => cf_At D A (wSc K h0 (fun _ => h2) o0 ++ wNl K h1 a1 o1 ++ wSB K h2 u r) t) A) AR s (gC (phSB os) (phSB r)) (gS (phSB os) (phSB r)) A) (F0 m 33 ls []) := by
  obtain ⟨⟨hx, hb, hr, hts, hown, hlocks, hin, hml⟩, hE, hA⟩ := id C
  have hK := hE.k
  refine lv_aload_n hx hb dSc_writeResult_33 rfl (lv_at hl 0 rfl) ?_
  refine lv_aload_n hx hb dSc_writeResult_34 rfl (lv_at hl 1 rfl) ?_
  refine va_get (D := D) (ci := 2) (v := .ref (a1 4)) (C := RNl) (T := TNl) (N := 17) hx hb hts inNl hown hK hP 1 rfl rfl 4 (by decide) (hts _ wv_492) (fun _ h9 => h9) rfl dSc_writeResult_35 ?_
  refine lv_iload_n hx hb dSc_writeResult_38 rfl (lv_at hl 2 rfl) ?_
  obtain ⟨hi_1, h⟩ := op_n h
  refine va_lald (D := D) hx hb hK hP 3 1 rfl rfl hi_1 dSc_writeResult_39 ?_
  refine lv_topl (fun x_2 ex_2 => ?_)
  have h := op_ks ex_2 h
  obtain ⟨q_3, hq_3, h⟩ := op_b h
  have hgr_4 : phSB q_3 ≤ phSB r := nSc_writeResult_43 _ _ _ _ _ _ _ h
  have hg2_5 : phSB o2 ≤ phSB q_3 := nSc_writeName _ _ _ _ hq_3
  refine cf_callv (wc := wSc K h0 (fun _ => h2) o0 ++ wSB K h2 a2 o2) (wr := wNl K h1 a1 o1) (va_runV (As := [.long x_2]) (rest := []) ⟨hx, hb, hml, hown, hts⟩ (mSc_writeName l D K _ x_2 h0 h2 a2 o0 o2 _ hq_3) (cwV 1 hts (cf_GV wv_1794 wv_1795 wv_1796 wv_165 wv_1797) rfl rfl rfl (by decide +kernel) ⟨Nat.le_of_ble_eq_true rfl, Nat.le_of_ble_eq_true rfl⟩) (cf_preV (wc := wSc K h0 (fun _ => h2) o0 ++ wSB K h2 a2 o2) hE hP hD hS hA rfl 0 rfl [0, 14, 15] rfl (by decide +kernel)) rfl rfl hl.1 rfl (lv_room (Nat.le_of_ble_eq_true rfl)) dSc_writeResult_40 ⟨Nat.le_trans (gC_add hg hg2_5) (gC_le hgr_4), Nat.le_trans (gS_add hg hg2_5) (gS_le hgr_4)⟩) hP hD hS hA [0, 14, 15] [1, 2, 3, 4, 5, 6, 7, 8, 9, 10, 11, 12, 13] rfl rfl (by decide +kernel) (by decide +kernel) (fun a2_7 H locs hw_6 hP hD hS => ?_)
  have hP : va_P D vwCl (wSc K h0 (fun _ => h2) o0 ++ wNl K h1 a1 o1 ++ wSB K h2 a2_7 q_3) H := hP.sub [13, 0, 1, 2, 3, 4, 5, 6, 7, 8, 9, 10, 11, 12, 14, 15] rfl
  have hD : va_D A (wSc K h0 (fun _ => h2) o0 ++ wNl K h1 a1 o1 ++ wSB K h2 a2_7 q_3) := hD.sub [13, 0, 1, 2, 3, 4, 5, 6, 7, 8, 9, 10, 11, 12, 14, 15] (by decide +kernel) rfl
  refine W.widen (k := (gC (phSB os) (phSB q_3))) (n := (gS (phSB os) (phSB q_3))) (gC_add hg hg2_5) (gS_add hg hg2_5) ?_
  have hg : phSB os ≤ phSB q_3 := Nat.le_trans hg hg2_5
  exact bSc_writeResult_43 C _ _ _ _ _ _ _ h hg hP hD hS (lv_sub hl [0, 3, 4, 5] rfl)
set_option maxHeartbeats 4000000 in
set_option maxRecDepth 100000 in
theorem bSc_writeResult_21 {p : Program} {l : Launch} {e : Env} {s : State} {m : MethodId} {below : List Frame} {meth : Method} {c : Code} {A : Nat → Prop} {D : va_G} {K : Nat → ClassId} {h0 : Nat} {h1 : Nat} {a1 : Nat → Nat} {h2 : Nat} {os : cf_O} {AR : Array Value} (C : (dc_C p s m AR meth c cSc_writeResult 6 (Option.none : Option Jvm.ClassFile.FieldType) ySc_writeResult ∧ cf_E D K A s s.heap ∧ ∀ q, s.heap.size ≤ q → A q)) (v2 : Int32) (v3 : Int32) (v4 : Int32) (v5 : Int32) (o0 : cf_O) (o1 : cf_O) (o2 : cf_O) (r : cf_O) (h : fSc_writeResult_21 v2 v3 v4 v5 o0 o1 o2 = some r) {a2 : Nat → Nat} {H : Heap} {locs : List Loc} {ls : Array Slot} (hg : phSB os ≤ phSB o2) (hP : va_P D vwCl (wSc K h0 (fun _ => h2) o0 ++ wNl K h1 a1 o1 ++ wSB K h2 a2 o2) H) (hD : va_D A (wSc K h0 (fun _ => h2) o0 ++ wNl K h1 a1 o1 ++ wSB K h2 a2 o2)) (hS : va_S A s.heap H locs) (hl : lv_has ls 6 [(0, .ref h0), (1, .ref h1), (2, .int v2), (3, .int v3), (4, .int v4), (5, .int v5)]) : W p l e ({ frames := 8, cells := (gC (phSB os) (phSB r)), slots := (gS (phSB os) (phSB r)), locals := 213 }) s m AR below meth c H locs (gC (phSB os) (phSB o2)) (gS (phSB os) (phSB o2)) (MQ below (va_Qv (fun (_ : Nat → Nat) => True) (fun (u : Nat → Nat) t => cf_At D A (wSc K h0 (fun _ => h2) o0 ++ wNl K h1 a1 o1 ++ wSB K h2 u r) t) A) AR s (gC (phSB os) (phSB r)) (gS (phSB os) (phSB r)) A) (F0 m 21 ls [.ref h2]) := by
  obtain ⟨⟨hx, hb, hr, hts, hown, hlocks, hin, hml⟩, hE, hA⟩ := id C
  have hK := hE.k
  refine lv_pop hx hb dSc_writeResult_21 rfl ?_
  refine lv_iload hx hb dSc_writeResult_22 (lv_at hl 5 rfl) ?_
  refine lv_if_ne (tgt := 33) hx hb dSc_writeResult_24 (by decide) (fun c_1 => ?_) (fun c_1 => ?_)
  · have h := op_f c_1 h
    exact bSc_writeResult_33 C _ _ _ _ _ _ _ _ h hg hP hD hS (lv_sub hl [0, 1, 2, 3, 4, 5] rfl)
  · have h := op_t c_1 h
    refine lv_aload_n hx hb dSc_writeResult_27 rfl (lv_at hl 0 rfl) ?_
    refine lv_aload_n hx hb dSc_writeResult_28 rfl (lv_at hl 1 rfl) ?_
    refine lv_iload_n hx hb dSc_writeResult_29 rfl (lv_at hl 3 rfl) ?_
    obtain ⟨q_2, hq_2, h⟩ := op_b h
    have hgr_3 : phSB q_2 ≤ phSB r := nSc_writeResult_33 _ _ _ _ _ _ _ _ h
    have hg2_4 : phSB o2 ≤ phSB q_2 := nSc_writeLiteral _ _ _ _ _ hq_2
    refine cf_callv (wc := wSc K h0 (fun _ => h2) o0 ++ wNl K h1 a1 o1 ++ wSB K h2 a2 o2) (wr := []) (va_runV (As := [.ref h1, .int v3]) (rest := []) ⟨hx, hb, hml, hown, hts⟩ (mSc_writeLiteral l D K _ v3 h0 h1 a1 h2 a2 o0 o1 o2 _ hq_2) (cwV 2 hts (cf_GV wv_1820 wv_1821 wv_1822 wv_165 wv_1823) rfl rfl rfl (by decide +kernel) ⟨Nat.le_of_ble_eq_true rfl, Nat.le_of_ble_eq_true rfl⟩) (cf_preV (wc := wSc K h0 (fun _ => h2) o0 ++ wNl K h1 a1 o1 ++ wSB K h2 a2 o2) hE hP hD hS hA rfl 0 rfl [0, 1, 2, 3, 4, 5, 6, 7, 8, 9, 10, 11, 12, 13, 14, 15] rfl (by decide +kernel)) rfl rfl hl.1 rfl (lv_room (Nat.le_of_ble_eq_true rfl)) dSc_writeResult_30 ⟨Nat.le_trans (gC_add hg hg2_4) (gC_le hgr_3), Nat.le_trans (gS_add hg hg2_4) (gS_le hgr_3)⟩) hP hD hS hA [0, 1, 2, 3, 4, 5, 6, 7, 8, 9, 10, 11, 12, 13, 14, 15] [] rfl rfl (by decide +kernel) (by decide +kernel) (fun a2_6 H locs hw_5 hP hD hS => ?_)
    have hP : va_P D vwCl (wSc K h0 (fun _ => h2) o0 ++ wNl K h1 a1 o1 ++ wSB K h2 a2_6 q_2) H := hP.sub [0, 1, 2, 3, 4, 5, 6, 7, 8, 9, 10, 11, 12, 13, 14, 15] rfl
    have hD : va_D A (wSc K h0 (fun _ => h2) o0 ++ wNl K h1 a1 o1 ++ wSB K h2 a2_6 q_2) := hD.sub [0, 1, 2, 3, 4, 5, 6, 7, 8, 9, 10, 11, 12, 13, 14, 15] (by decide +kernel) rfl
    refine W.widen (k := (gC (phSB os) (phSB q_2))) (n := (gS (phSB os) (phSB q_2))) (gC_add hg hg2_4) (gS_add hg hg2_4) ?_
    have hg : phSB os ≤ phSB q_2 := Nat.le_trans hg hg2_4
    exact bSc_writeResult_33 C _ _ _ _ _ _ _ _ h hg hP hD hS (lv_sub hl [0, 1, 2, 3, 4, 5] rfl)
set_option maxHeartbeats 4000000 in
set_option maxRecDepth 100000 in
theorem bSc_writeResult_10 {p : Program} {l : Launch} {e : Env} {s : State} {m : MethodId} {below : List Frame} {meth : Method} {c : Code} {A : Nat → Prop} {D : va_G} {K : Nat → ClassId} {h0 : Nat} {h1 : Nat} {a1 : Nat → Nat} {h2 : Nat} {os : cf_O} {AR : Array Value} (C : (dc_C p s m AR meth c cSc_writeResult 6 (Option.none : Option Jvm.ClassFile.FieldType) ySc_writeResult ∧ cf_E D K A s s.heap ∧ ∀ q, s.heap.size ≤ q → A q)) (v2 : Int32) (v3 : Int32) (v4 : Int32) (s0 : Int32) (o0 : cf_O) (o1 : cf_O) (o2 : cf_O) (r : cf_O) (h : fSc_writeResult_10 v2 v3 v4 s0 o0 o1 o2 = some r) {a2 : Nat → Nat} {H : Heap} {locs : List Loc} {ls : Array Slot} (hg : phSB os ≤ phSB o2) (hP : va_P D vwCl (wSc K h0 (fun _ => h2) o0 ++ wNl K h1 a1 o1 ++ wSB K h2 a2 o2) H) (hD : va_D A (wSc K h0 (fun _ => h2) o0 ++ wNl K h1 a1 o1 ++ wSB K h2 a2 o2)) (hS : va_S A s.heap H locs) (hl : lv_has ls 6 [(0, .ref h0), (1, .ref h1), (2, .int v2), (3, .int v3), (4, .int v4)]) : W p l e ({ frames := 8, cells := (gC (phSB os) (phSB r)), slots := (gS (phSB os) (phSB r)), locals := 213 }) s m AR below meth c H locs (gC (phSB os) (phSB o2)) (gS (phSB os) (phSB o2)) (MQ below (va_Qv (fun (_ : Nat → Nat) => True) (fun (u : Nat → Nat) t => cf_At D A (wSc K h0 (fun _ => h2) o0 ++ wNl K h1 a1 o1 ++ wSB K h2 u r) t) A) AR s (gC (phSB os) (phSB r)) (gS (phSB os) (phSB r)) A) (F0 m 10 ls [.int s0]) := by
  obtain ⟨⟨hx, hb, hr, hts, hown, hlocks, hin, hml⟩, hE, hA⟩ := id C
  have hK := hE.k
  refine lv_istore (lv' := [(5, .int s0), (0, .ref h0), (1, .ref h1), (2, .int v2), (3, .int v3), (4, .int v4)]) hx hb dSc_writeResult_10 hl (by decide) rfl (fun ls hl => ?_)
  refine lv_aload_n hx hb dSc_writeResult_12 rfl (lv_at hl 1 rfl) ?_
  refine va_get (D := D) (ci := 10) (v := .ref h2) (C := RSc) (T := TSc) (N := 2) hx hb hts inSc hown hK hP 0 rfl rfl 1 (by decide) (hts _ wv_469) (fun _ h9 => h9) rfl dSc_writeResult_13 ?_
  refine va_ldcS hx hb hown (hE.s 12 rfl).1 dSc_writeResult_16 ?_
  obtain ⟨q_1, hq_1, h⟩ := op_b h
  have hgr_2 : phSB q_1 ≤ phSB r := nSc_writeResult_21 _ _ _ _ _ _ _ _ h
  have hg2_3 : phSB o2 ≤ phSB q_1 := nSB_appendS_S12 _ _ hq_1
  refine cf_callR (wc := wSB K h2 a2 o2) (wr := wSc K h0 (fun _ => h2) o0 ++ wNl K h1 a1 o1) (va_runV (As := [.ref (K 112)]) (rest := []) ⟨hx, hb, hml, hown, hts⟩ (mSB_appendS_S12 l D K _ h2 a2 o2 _ hq_1) (cwV 1 hts (cf_GV wv_1793 wv_1555 wv_1556 wv_167 wv_1557) rfl rfl rfl (by decide +kernel) ⟨Nat.le_of_ble_eq_true rfl, Nat.le_of_ble_eq_true rfl⟩) (cf_preV (wc := wSB K h2 a2 o2) hE hP hD hS hA rfl 14 rfl [14, 15] rfl (by decide +kernel)) rfl rfl hl.1 rfl (lv_room (Nat.le_of_ble_eq_true rfl)) dSc_writeResult_18 ⟨Nat.le_trans (gC_add hg hg2_3) (gC_le hgr_2), Nat.le_trans (gS_add hg hg2_3) (gS_le hgr_2)⟩) hP hD hS hA [14, 15] [0, 1, 2, 3, 4, 5, 6, 7, 8, 9, 10, 11, 12, 13] rfl rfl (by decide +kernel) (by decide +kernel) (fun a2_5 H locs hw_4 hP hD hS => ?_)
  have hP : va_P D vwCl (wSc K h0 (fun _ => h2) o0 ++ wNl K h1 a1 o1 ++ wSB K h2 a2_5 q_1) H := hP.sub [0, 1, 2, 3, 4, 5, 6, 7, 8, 9, 10, 11, 12, 13, 14, 15] rfl
  have hD : va_D A (wSc K h0 (fun _ => h2) o0 ++ wNl K h1 a1 o1 ++ wSB K h2 a2_5 q_1) := hD.sub [0, 1, 2, 3, 4, 5, 6, 7, 8, 9, 10, 11, 12, 13, 14, 15] (by decide +kernel) rfl
  refine W.widen (k := (gC (phSB os) (phSB q_1))) (n := (gS (phSB os) (phSB q_1))) (gC_add hg hg2_3) (gS_add hg hg2_3) ?_
  have hg : phSB os ≤ phSB q_1 := Nat.le_trans hg hg2_3
  exact bSc_writeResult_21 C _ _ _ _ _ _ _ _ h hg hP hD hS (lv_sub hl [1, 2, 3, 4, 5, 0] rfl)
set_option maxHeartbeats 4000000 in
set_option maxRecDepth 100000 in
theorem bSc_writeResult_0 {p : Program} {l : Launch} {e : Env} {s : State} {m : MethodId} {below : List Frame} {meth : Method} {c : Code} {A : Nat → Prop} {D : va_G} {K : Nat → ClassId} {h0 : Nat} {h1 : Nat} {a1 : Nat → Nat} {h2 : Nat} {os : cf_O} {AR : Array Value} (C : (dc_C p s m AR meth c cSc_writeResult 6 (Option.none : Option Jvm.ClassFile.FieldType) ySc_writeResult ∧ cf_E D K A s s.heap ∧ ∀ q, s.heap.size ≤ q → A q)) (v2 : Int32) (v3 : Int32) (v4 : Int32) (o0 : cf_O) (o1 : cf_O) (o2 : cf_O) (r : cf_O) (h : fSc_writeResult_0 v2 v3 v4 o0 o1 o2 = some r) {a2 : Nat → Nat} {H : Heap} {locs : List Loc} {ls : Array Slot} (hg : phSB os ≤ phSB o2) (hP : va_P D vwCl (wSc K h0 (fun _ => h2) o0 ++ wNl K h1 a1 o1 ++ wSB K h2 a2 o2) H) (hD : va_D A (wSc K h0 (fun _ => h2) o0 ++ wNl K h1 a1 o1 ++ wSB K h2 a2 o2)) (hS : va_S A s.heap H locs) (hl : lv_has ls 6 [(0, .ref h0), (1, .ref h1), (2, .int v2), (3, .int v3), (4, .int v4)]) : W p l e ({ frames := 8, cells := (gC (phSB os) (phSB r)), slots := (gS (phSB os) (phSB r)), locals := 213 }) s m AR below meth c H locs (gC (phSB os) (phSB o2)) (gS (phSB os) (phSB o2)) (MQ below (va_Qv (fun (_ : Nat → Nat) => True) (fun (u : Nat → Nat) t => cf_At D A (wSc K h0 (fun _ => h2) o0 ++ wNl K h1 a1 o1 ++ wSB K h2 u r) t) A) AR s (gC (phSB os) (phSB r)) (gS (phSB os) (phSB r)) A) (F0 m 0 ls []) := by
  obtain ⟨⟨hx, hb, hr, hts, hown, hlocks, hin, hml⟩, hE, hA⟩ := id C
  have hK := hE.k
  refine lv_iload_n hx hb dSc_writeResult_0 rfl (lv_at hl 3 rfl) ?_
  refine lv_iconst (v := 2) hx hb dSc_writeResult_1 (by decide) ?_
  refine lv_icmp_ge (tgt := 9) hx hb dSc_writeResult_2 (by decide) (fun c_1 => ?_) (fun c_1 => ?_)
  · have h := op_t c_1 h
    refine lv_iconst (v := 0) hx hb dSc_writeResult_9 (by decide) ?_
    exact bSc_writeResult_10 C _ _ _ _ _ _ _ _ h hg hP hD hS (lv_sub hl [0, 1, 2, 3, 4] rfl)
  · have h := op_f c_1 h
    refine lv_iconst (v := 1) hx hb dSc_writeResult_5 (by decide) ?_
    refine lv_goto (tgt := 10) hx hb dSc_writeResult_6 (by decide) ?_
    exact bSc_writeResult_10 C _ _ _ _ _ _ _ _ h hg hP hD hS (lv_sub hl [0, 1, 2, 3, 4] rfl)
set_option maxRecDepth 100000 in
theorem mSc_writeResult (l : Launch) (D : va_G) (K : Nat → ClassId) (sz : Nat) (v2 : Int32) (v3 : Int32) (v4 : Int32) (h0 : Nat) (h1 : Nat) (a1 : Nat → Nat) (h2 : Nat) (a2 : Nat → Nat) (o0 : cf_O) (o1 : cf_O) (o2 : cf_O) (r : cf_O) (h : fSc_writeResult v2 v3 v4 o0 o1 o2 = some r) : Met l ySc_writeResult (Cond.code ySc_writeResult cSc_writeResult 6 (Option.none : Option Jvm.ClassFile.FieldType) :: cfB) ({ frames := 8, cells := (gC (phSB o2) (phSB r)), slots := (gS (phSB o2) (phSB r)), locals := 213 }) (va_Pc [.ref h0, .ref h1, .int v2, .int v3, .int v4] (cf_Pre D K sz (wSc K h0 (fun _ => h2) o0 ++ wNl K h1 a1 o1 ++ wSB K h2 a2 o2))) (va_Qv (fun (_ : Nat → Nat) => True) (fun (u : Nat → Nat) t => cf_At D (va_A (wSc K h0 (fun _ => h2) o0 ++ wNl K h1 a1 o1 ++ wSB K h2 a2 o2) sz) (wSc K h0 (fun _ => h2) o0 ++ wNl K h1 a1 o1 ++ wSB K h2 u r) t) (va_A (wSc K h0 (fun _ => h2) o0 ++ wNl K h1 a1 o1 ++ wSB K h2 a2 o2) sz)) (gC (phSB o2) (phSB r)) (gS (phSB o2) (phSB r)) (va_A (wSc K h0 (fun _ => h2) o0 ++ wNl K h1 a1 o1 ++ wSB K h2 a2 o2) sz) := by
  refine cf_ofW (y := ySc_writeResult) (As := [.ref h0, .ref h1, .int v2, .int v3, .int v4]) (WS := wSc K h0 (fun _ => h2) o0 ++ wNl K h1 a1 o1 ++ wSB K h2 a2 o2) (maxL := 6) (fun A => (va_Qv (fun (_ : Nat → Nat) => True) (fun (u : Nat → Nat) t => cf_At D A (wSc K h0 (fun _ => h2) o0 ++ wNl K h1 a1 o1 ++ wSB K h2 u r) t) A)) (by decide) (Nat.le_of_ble_eq_true rfl) ?_
  intro p e s m below meth c A ls En hsz hA hP hD hE hS hl
  have C : (dc_C p s m (([.ref h0, .ref h1, .int v2, .int v3, .int v4] : List Value).toArray) meth c cSc_writeResult 6 (Option.none : Option Jvm.ClassFile.FieldType) ySc_writeResult ∧ cf_E D K A s s.heap ∧ ∀ q, s.heap.size ≤ q → A q) := ⟨En, hE, hA⟩
  refine W.widen (k := gC (phSB o2) (phSB o2)) (n := gS (phSB o2) (phSB o2)) (Nat.zero_le _) (Nat.zero_le _) ?_
  exact bSc_writeResult_0 C v2 v3 v4 o0 o1 o2 r h (Nat.le_refl _) hP hD hS hl

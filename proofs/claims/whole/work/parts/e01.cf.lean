def yF_end : MethodName := ⟨"CellForge", "end", "(I)V"⟩
abbrev cF_end : ByteArray := prog_1_method_3_code
theorem dF_end_0 : decode cF_end 0 = .ok (.iload_n 1, 1) := by decide +kernel
theorem dF_end_1 : decode cF_end 1 = .ok (.ifCond .lt 14, 3) := by decide +kernel
theorem dF_end_4 : decode cF_end 4 = .ok (.iload_n 1, 1) := by decide +kernel
theorem dF_end_5 : decode cF_end 5 = .ok (.aload_n 0, 1) := by decide +kernel
theorem dF_end_6 : decode cF_end 6 = .ok (.getfield 12, 3) := by decide +kernel
theorem dF_end_9 : decode cF_end 9 = .ok (.getfield 109, 3) := by decide +kernel
theorem dF_end_12 : decode cF_end 12 = .ok (.if_icmp .le 11, 3) := by decide +kernel
theorem dF_end_15 : decode cF_end 15 = .ok (.new 106, 3) := by decide +kernel
theorem dF_end_18 : decode cF_end 18 = .ok (.dup, 1) := by decide +kernel
theorem dF_end_19 : decode cF_end 19 = .ok (.invokespecial 108, 3) := by decide +kernel
theorem dF_end_22 : decode cF_end 22 = .ok (.athrow, 1) := by decide +kernel
theorem dF_end_23 : decode cF_end 23 = .ok (.aload_n 0, 1) := by decide +kernel
theorem dF_end_24 : decode cF_end 24 = .ok (.getfield 12, 3) := by decide +kernel
theorem dF_end_27 : decode cF_end 27 = .ok (.iload_n 1, 1) := by decide +kernel
theorem dF_end_28 : decode cF_end 28 = .ok (.putfield 109, 3) := by decide +kernel
theorem dF_end_31 : decode cF_end 31 = .ok (.return_, 1) := by decide +kernel
def yF_takeSpareNodes : MethodName := ⟨"CellForge", "takeSpareNodes", "()V"⟩
abbrev cF_takeSpareNodes : ByteArray := prog_1_method_27_code
theorem dF_takeSpareNodes_0 : decode cF_takeSpareNodes 0 = .ok (.aload_n 0, 1) := by decide +kernel
theorem dF_takeSpareNodes_1 : decode cF_takeSpareNodes 1 = .ok (.getfield 81, 3) := by decide +kernel
theorem dF_takeSpareNodes_4 : decode cF_takeSpareNodes 4 = .ok (.astore_n 1, 1) := by decide +kernel
theorem dF_takeSpareNodes_5 : decode cF_takeSpareNodes 5 = .ok (.aload_n 0, 1) := by decide +kernel
theorem dF_takeSpareNodes_6 : decode cF_takeSpareNodes 6 = .ok (.aload_n 0, 1) := by decide +kernel
theorem dF_takeSpareNodes_7 : decode cF_takeSpareNodes 7 = .ok (.getfield 85, 3) := by decide +kernel
theorem dF_takeSpareNodes_10 : decode cF_takeSpareNodes 10 = .ok (.putfield 81, 3) := by decide +kernel
theorem dF_takeSpareNodes_13 : decode cF_takeSpareNodes 13 = .ok (.aload_n 0, 1) := by decide +kernel
theorem dF_takeSpareNodes_14 : decode cF_takeSpareNodes 14 = .ok (.aload_n 1, 1) := by decide +kernel
theorem dF_takeSpareNodes_15 : decode cF_takeSpareNodes 15 = .ok (.putfield 85, 3) := by decide +kernel
theorem dF_takeSpareNodes_18 : decode cF_takeSpareNodes 18 = .ok (.aload_n 0, 1) := by decide +kernel
theorem dF_takeSpareNodes_19 : decode cF_takeSpareNodes 19 = .ok (.getfield 19, 3) := by decide +kernel
theorem dF_takeSpareNodes_22 : decode cF_takeSpareNodes 22 = .ok (.iconst 0, 1) := by decide +kernel
theorem dF_takeSpareNodes_23 : decode cF_takeSpareNodes 23 = .ok (.putfield 305, 3) := by decide +kernel
theorem dF_takeSpareNodes_26 : decode cF_takeSpareNodes 26 = .ok (.aload_n 0, 1) := by decide +kernel
theorem dF_takeSpareNodes_27 : decode cF_takeSpareNodes 27 = .ok (.getfield 26, 3) := by decide +kernel
theorem dF_takeSpareNodes_30 : decode cF_takeSpareNodes 30 = .ok (.iconst 0, 1) := by decide +kernel
theorem dF_takeSpareNodes_31 : decode cF_takeSpareNodes 31 = .ok (.putfield 308, 3) := by decide +kernel
theorem dF_takeSpareNodes_34 : decode cF_takeSpareNodes 34 = .ok (.aload_n 0, 1) := by decide +kernel
theorem dF_takeSpareNodes_35 : decode cF_takeSpareNodes 35 = .ok (.iconst 0, 1) := by decide +kernel
theorem dF_takeSpareNodes_36 : decode cF_takeSpareNodes 36 = .ok (.putfield 215, 3) := by decide +kernel
theorem dF_takeSpareNodes_39 : decode cF_takeSpareNodes 39 = .ok (.aload_n 0, 1) := by decide +kernel
theorem dF_takeSpareNodes_40 : decode cF_takeSpareNodes 40 = .ok (.iconst 0, 1) := by decide +kernel
theorem dF_takeSpareNodes_41 : decode cF_takeSpareNodes 41 = .ok (.putfield 254, 3) := by decide +kernel
theorem dF_takeSpareNodes_44 : decode cF_takeSpareNodes 44 = .ok (.return_, 1) := by decide +kernel
theorem wv_241 : Cond.fieldLink "CellForge" 305 "CellForge$Functions" "known" "Z" ∈ cfB := cf_in 241 (by decide +kernel) rfl
theorem wv_265 : Cond.fieldLink "CellForge" 308 "CellForge$Cuts" "most" "I" ∈ cfB := cf_in 265 (by decide +kernel) rfl
def yF_read : MethodName := ⟨"CellForge", "read", "()I"⟩
abbrev cF_read : ByteArray := prog_1_method_4_code
theorem dF_read_0 : decode cF_read 0 = .ok (.aload_n 0, 1) := by decide +kernel
theorem dF_read_1 : decode cF_read 1 = .ok (.getfield 75, 3) := by decide +kernel
theorem dF_read_4 : decode cF_read 4 = .ok (.aload_n 0, 1) := by decide +kernel
theorem dF_read_5 : decode cF_read 5 = .ok (.getfield 12, 3) := by decide +kernel
theorem dF_read_8 : decode cF_read 8 = .ok (.invokevirtual 119, 3) := by decide +kernel
theorem dF_read_11 : decode cF_read 11 = .ok (.istore_n 1, 1) := by decide +kernel
theorem dF_read_12 : decode cF_read 12 = .ok (.aload_n 0, 1) := by decide +kernel
theorem dF_read_13 : decode cF_read 13 = .ok (.getfield 75, 3) := by decide +kernel
theorem dF_read_16 : decode cF_read 16 = .ok (.getfield 123, 3) := by decide +kernel
theorem dF_read_19 : decode cF_read 19 = .ok (.istore_n 2, 1) := by decide +kernel
theorem dF_read_20 : decode cF_read 20 = .ok (.iload_n 1, 1) := by decide +kernel
theorem dF_read_21 : decode cF_read 21 = .ok (.ifCond .ne 59, 3) := by decide +kernel
theorem dF_read_24 : decode cF_read 24 = .ok (.aload_n 0, 1) := by decide +kernel
theorem dF_read_25 : decode cF_read 25 = .ok (.getfield 75, 3) := by decide +kernel
theorem dF_read_28 : decode cF_read 28 = .ok (.aload_n 0, 1) := by decide +kernel
theorem dF_read_29 : decode cF_read 29 = .ok (.getfield 85, 3) := by decide +kernel
theorem dF_read_32 : decode cF_read 32 = .ok (.invokevirtual 124, 3) := by decide +kernel
theorem dF_read_35 : decode cF_read 35 = .ok (.aload_n 0, 1) := by decide +kernel
theorem dF_read_36 : decode cF_read 36 = .ok (.getfield 85, 3) := by decide +kernel
theorem dF_read_39 : decode cF_read 39 = .ok (.getfield 128, 3) := by decide +kernel
theorem dF_read_42 : decode cF_read 42 = .ok (.ifCond .ne 7, 3) := by decide +kernel
theorem dF_read_45 : decode cF_read 45 = .ok (.iconst 1, 1) := by decide +kernel
theorem dF_read_46 : decode cF_read 46 = .ok (.goto 4, 3) := by decide +kernel
theorem dF_read_49 : decode cF_read 49 = .ok (.iconst 0, 1) := by decide +kernel
theorem dF_read_50 : decode cF_read 50 = .ok (.invokestatic 132, 3) := by decide +kernel
theorem dF_read_53 : decode cF_read 53 = .ok (.aload_n 0, 1) := by decide +kernel
theorem dF_read_54 : decode cF_read 54 = .ok (.getfield 71, 3) := by decide +kernel
theorem dF_read_57 : decode cF_read 57 = .ok (.astore_n 3, 1) := by decide +kernel
theorem dF_read_58 : decode cF_read 58 = .ok (.aload_n 0, 1) := by decide +kernel
theorem dF_read_59 : decode cF_read 59 = .ok (.aload_n 0, 1) := by decide +kernel
theorem dF_read_60 : decode cF_read 60 = .ok (.getfield 75, 3) := by decide +kernel
theorem dF_read_63 : decode cF_read 63 = .ok (.putfield 71, 3) := by decide +kernel
theorem dF_read_66 : decode cF_read 66 = .ok (.aload_n 0, 1) := by decide +kernel
theorem dF_read_67 : decode cF_read 67 = .ok (.aload_n 3, 1) := by decide +kernel
theorem dF_read_68 : decode cF_read 68 = .ok (.putfield 75, 3) := by decide +kernel
theorem dF_read_71 : decode cF_read 71 = .ok (.aload_n 0, 1) := by decide +kernel
theorem dF_read_72 : decode cF_read 72 = .ok (.invokevirtual 136, 3) := by decide +kernel
theorem dF_read_75 : decode cF_read 75 = .ok (.aload_n 0, 1) := by decide +kernel
theorem dF_read_76 : decode cF_read 76 = .ok (.iconst 1, 1) := by decide +kernel
theorem dF_read_77 : decode cF_read 77 = .ok (.putfield 139, 3) := by decide +kernel
theorem dF_read_80 : decode cF_read 80 = .ok (.aload_n 0, 1) := by decide +kernel
theorem dF_read_81 : decode cF_read 81 = .ok (.iload_n 2, 1) := by decide +kernel
theorem dF_read_82 : decode cF_read 82 = .ok (.putfield 98, 3) := by decide +kernel
theorem dF_read_85 : decode cF_read 85 = .ok (.iload_n 1, 1) := by decide +kernel
theorem dF_read_86 : decode cF_read 86 = .ok (.ireturn, 1) := by decide +kernel
theorem wv_1085 : Cond.methodLink "CellForge" 136 (⟨"CellForge", "takeSpareNodes", "()V"⟩ : MethodName) ∈ cfB := cf_in 1085 (by decide +kernel) rfl
theorem wv_1087 : Cond.instanceMethod (⟨"CellForge", "takeSpareNodes", "()V"⟩ : MethodName) ∈ cfB := cf_in 1087 (by decide +kernel) rfl
theorem wv_24 : Cond.selects "CellForge" (⟨"CellForge", "takeSpareNodes", "()V"⟩ : MethodName) (⟨"CellForge", "takeSpareNodes", "()V"⟩ : MethodName) ∈ cfB := cf_in 24 (by decide +kernel) rfl
theorem wv_1088 : Cond.code (⟨"CellForge", "takeSpareNodes", "()V"⟩ : MethodName) prog_1_method_27_code 2 (Option.none : Option Jvm.ClassFile.FieldType) ∈ cfB := cf_in 1088 (by decide +kernel) rfl
theorem wv_1082 : Cond.methodLink "CellForge" 132 (⟨"CellForge", "needRoom", "(Z)V"⟩ : MethodName) ∈ cfB := cf_in 1082 (by decide +kernel) rfl
theorem wv_1083 : Cond.static (⟨"CellForge", "needRoom", "(Z)V"⟩ : MethodName) ∈ cfB := cf_in 1083 (by decide +kernel) rfl
theorem wv_1084 : Cond.code (⟨"CellForge", "needRoom", "(Z)V"⟩ : MethodName) prog_1_method_30_code 1 (Option.none : Option Jvm.ClassFile.FieldType) ∈ cfB := cf_in 1084 (by decide +kernel) rfl
theorem wv_559 : Cond.fieldLink "CellForge" 128 "CellForge$Graph" "full" "Z" ∈ cfB := cf_in 559 (by decide +kernel) rfl
theorem wv_488 : Cond.fieldLink "CellForge" 123 "CellForge$Netlist" "faultLine" "I" ∈ cfB := cf_in 488 (by decide +kernel) rfl
theorem wv_1032 : Cond.methodLink "CellForge" 124 (⟨"CellForge$Netlist", "buildInto", "(LCellForge$Graph;)V"⟩ : MethodName) ∈ cfB := cf_in 1032 (by decide +kernel) rfl
theorem wv_1035 : Cond.code (⟨"CellForge$Netlist", "buildInto", "(LCellForge$Graph;)V"⟩ : MethodName) prog_9_method_16_code 3 (Option.none : Option Jvm.ClassFile.FieldType) ∈ cfB := cf_in 1035 (by decide +kernel) rfl
theorem wv_1033 : Cond.instanceMethod (⟨"CellForge$Netlist", "buildInto", "(LCellForge$Graph;)V"⟩ : MethodName) ∈ cfB := cf_in 1033 (by decide +kernel) rfl
theorem wv_1034 : Cond.selects "CellForge$Netlist" (⟨"CellForge$Netlist", "buildInto", "(LCellForge$Graph;)V"⟩ : MethodName) (⟨"CellForge$Netlist", "buildInto", "(LCellForge$Graph;)V"⟩ : MethodName) ∈ cfB := cf_in 1034 (by decide +kernel) rfl
theorem wv_965 : Cond.methodLink "CellForge" 119 (⟨"CellForge$Netlist", "scan", "(LCellForge$Text;)I"⟩ : MethodName) ∈ cfB := cf_in 965 (by decide +kernel) rfl
theorem wv_968 : Cond.code (⟨"CellForge$Netlist", "scan", "(LCellForge$Text;)I"⟩ : MethodName) prog_9_method_2_code 3 (Option.some Jvm.ClassFile.FieldType.int) ∈ cfB := cf_in 968 (by decide +kernel) rfl
theorem wv_966 : Cond.instanceMethod (⟨"CellForge$Netlist", "scan", "(LCellForge$Text;)I"⟩ : MethodName) ∈ cfB := cf_in 966 (by decide +kernel) rfl
theorem wv_967 : Cond.selects "CellForge$Netlist" (⟨"CellForge$Netlist", "scan", "(LCellForge$Text;)I"⟩ : MethodName) (⟨"CellForge$Netlist", "scan", "(LCellForge$Text;)I"⟩ : MethodName) ∈ cfB := cf_in 967 (by decide +kernel) rfl
def yF_line : MethodName := ⟨"CellForge", "line", "()I"⟩
abbrev cF_line : ByteArray := prog_1_method_5_code
theorem dF_line_0 : decode cF_line 0 = .ok (.aload_n 0, 1) := by decide +kernel
theorem dF_line_1 : decode cF_line 1 = .ok (.getfield 98, 3) := by decide +kernel
theorem dF_line_4 : decode cF_line 4 = .ok (.ireturn, 1) := by decide +kernel
theorem wv_550 : Cond.fieldLink "CellForge" 145 "CellForge$Graph" "inputs" "I" ∈ cfB := cf_in 550 (by decide +kernel) rfl
theorem wv_555 : Cond.fieldLink "CellForge" 148 "CellForge$Graph" "outputs" "I" ∈ cfB := cf_in 555 (by decide +kernel) rfl
theorem wv_557 : Cond.fieldLink "CellForge" 151 "CellForge$Graph" "gates" "I" ∈ cfB := cf_in 557 (by decide +kernel) rfl
theorem wv_1115 : Cond.methodLink "CellForge" 154 (⟨"CellForge$Graph", "greatestLevel", "()I"⟩ : MethodName) ∈ cfB := cf_in 1115 (by decide +kernel) rfl
theorem wv_1118 : Cond.code (⟨"CellForge$Graph", "greatestLevel", "()I"⟩ : MethodName) prog_6_method_5_code 3 (Option.some Jvm.ClassFile.FieldType.int) ∈ cfB := cf_in 1118 (by decide +kernel) rfl
theorem wv_1116 : Cond.instanceMethod (⟨"CellForge$Graph", "greatestLevel", "()I"⟩ : MethodName) ∈ cfB := cf_in 1116 (by decide +kernel) rfl
theorem wv_1117 : Cond.selects "CellForge$Graph" (⟨"CellForge$Graph", "greatestLevel", "()I"⟩ : MethodName) (⟨"CellForge$Graph", "greatestLevel", "()I"⟩ : MethodName) ∈ cfB := cf_in 1117 (by decide +kernel) rfl
theorem wv_564 : Cond.fieldLink "CellForge" 164 "CellForge$Graph" "low" "[I" ∈ cfB := cf_in 564 (by decide +kernel) rfl
theorem wv_570 : Cond.fieldLink "CellForge" 168 "CellForge$Graph" "high" "[I" ∈ cfB := cf_in 570 (by decide +kernel) rfl
theorem wv_573 : Cond.fieldLink "CellForge" 171 "CellForge$Graph" "level" "[I" ∈ cfB := cf_in 573 (by decide +kernel) rfl
theorem wv_1127 : Cond.methodLink "CellForge" 158 (⟨"CellForge$Graph", "isGate", "(I)Z"⟩ : MethodName) ∈ cfB := cf_in 1127 (by decide +kernel) rfl
theorem wv_579 : Cond.fieldLink "CellForge" 174 "CellForge$Graph" "results" "[I" ∈ cfB := cf_in 579 (by decide +kernel) rfl
theorem wv_1177 : Cond.methodLink "CellForge" 180 (⟨"CellForge$Functions", "bit", "(II)I"⟩ : MethodName) ∈ cfB := cf_in 1177 (by decide +kernel) rfl
theorem wv_1163 : Cond.methodLink "CellForge" 177 (⟨"CellForge$Functions", "find", "(LCellForge$Graph;)V"⟩ : MethodName) ∈ cfB := cf_in 1163 (by decide +kernel) rfl
theorem wv_1166 : Cond.code (⟨"CellForge$Functions", "find", "(LCellForge$Graph;)V"⟩ : MethodName) prog_5_method_2_code 4 (Option.none : Option Jvm.ClassFile.FieldType) ∈ cfB := cf_in 1166 (by decide +kernel) rfl
theorem wv_1164 : Cond.instanceMethod (⟨"CellForge$Functions", "find", "(LCellForge$Graph;)V"⟩ : MethodName) ∈ cfB := cf_in 1164 (by decide +kernel) rfl
theorem wv_1165 : Cond.selects "CellForge$Functions" (⟨"CellForge$Functions", "find", "(LCellForge$Graph;)V"⟩ : MethodName) (⟨"CellForge$Functions", "find", "(LCellForge$Graph;)V"⟩ : MethodName) ∈ cfB := cf_in 1165 (by decide +kernel) rfl
theorem wv_1188 : Cond.methodLink "CellForge" 184 (⟨"CellForge$Remaker", "makeBalanced", "(LCellForge$Graph;LCellForge$Graph;)V"⟩ : MethodName) ∈ cfB := cf_in 1188 (by decide +kernel) rfl
theorem wv_1191 : Cond.code (⟨"CellForge$Remaker", "makeBalanced", "(LCellForge$Graph;LCellForge$Graph;)V"⟩ : MethodName) prog_10_method_2_code 4 (Option.none : Option Jvm.ClassFile.FieldType) ∈ cfB := cf_in 1191 (by decide +kernel) rfl
theorem wv_1189 : Cond.instanceMethod (⟨"CellForge$Remaker", "makeBalanced", "(LCellForge$Graph;LCellForge$Graph;)V"⟩ : MethodName) ∈ cfB := cf_in 1189 (by decide +kernel) rfl
theorem wv_1190 : Cond.selects "CellForge$Remaker" (⟨"CellForge$Remaker", "makeBalanced", "(LCellForge$Graph;LCellForge$Graph;)V"⟩ : MethodName) (⟨"CellForge$Remaker", "makeBalanced", "(LCellForge$Graph;LCellForge$Graph;)V"⟩ : MethodName) ∈ cfB := cf_in 1190 (by decide +kernel) rfl
theorem wv_1239 : Cond.methodLink "CellForge" 188 (⟨"CellForge$Remaker", "makeReduced", "(LCellForge$Graph;LCellForge$Graph;LCellForge$Functions;)V"⟩ : MethodName) ∈ cfB := cf_in 1239 (by decide +kernel) rfl
theorem wv_1242 : Cond.code (⟨"CellForge$Remaker", "makeReduced", "(LCellForge$Graph;LCellForge$Graph;LCellForge$Functions;)V"⟩ : MethodName) prog_10_method_3_code 6 (Option.none : Option Jvm.ClassFile.FieldType) ∈ cfB := cf_in 1242 (by decide +kernel) rfl
theorem wv_1240 : Cond.instanceMethod (⟨"CellForge$Remaker", "makeReduced", "(LCellForge$Graph;LCellForge$Graph;LCellForge$Functions;)V"⟩ : MethodName) ∈ cfB := cf_in 1240 (by decide +kernel) rfl
theorem wv_1241 : Cond.selects "CellForge$Remaker" (⟨"CellForge$Remaker", "makeReduced", "(LCellForge$Graph;LCellForge$Graph;LCellForge$Functions;)V"⟩ : MethodName) (⟨"CellForge$Remaker", "makeReduced", "(LCellForge$Graph;LCellForge$Graph;LCellForge$Functions;)V"⟩ : MethodName) ∈ cfB := cf_in 1241 (by decide +kernel) rfl
theorem wv_1332 : Cond.methodLink "CellForge" 195 (⟨"CellForge$Remaker", "makeRewritten", "(LCellForge$Graph;LCellForge$Graph;LCellForge$Cuts;LCellForge$Cone;)V"⟩ : MethodName) ∈ cfB := cf_in 1332 (by decide +kernel) rfl
set_option maxRecDepth 100000 in
theorem wv_1335 : Cond.code (⟨"CellForge$Remaker", "makeRewritten", "(LCellForge$Graph;LCellForge$Graph;LCellForge$Cuts;LCellForge$Cone;)V"⟩ : MethodName) prog_10_method_4_code 7 (Option.none : Option Jvm.ClassFile.FieldType) ∈ cfB := List.mem_filter.mpr ⟨List.mem_append_right _ (List.mem_append_right _ (List.mem_append_right _ (List.mem_append_right _ (List.mem_append_right _ (List.mem_append_left _ (List.mem_of_getElem? (i := 219) rfl)))))), rfl⟩
theorem wv_1333 : Cond.instanceMethod (⟨"CellForge$Remaker", "makeRewritten", "(LCellForge$Graph;LCellForge$Graph;LCellForge$Cuts;LCellForge$Cone;)V"⟩ : MethodName) ∈ cfB := cf_in 1333 (by decide +kernel) rfl
theorem wv_1334 : Cond.selects "CellForge$Remaker" (⟨"CellForge$Remaker", "makeRewritten", "(LCellForge$Graph;LCellForge$Graph;LCellForge$Cuts;LCellForge$Cone;)V"⟩ : MethodName) (⟨"CellForge$Remaker", "makeRewritten", "(LCellForge$Graph;LCellForge$Graph;LCellForge$Cuts;LCellForge$Cone;)V"⟩ : MethodName) ∈ cfB := cf_in 1334 (by decide +kernel) rfl
theorem wv_1273 : Cond.methodLink "CellForge" 192 (⟨"CellForge$Cuts", "find", "(LCellForge$Graph;I)Z"⟩ : MethodName) ∈ cfB := cf_in 1273 (by decide +kernel) rfl
theorem wv_1276 : Cond.code (⟨"CellForge$Cuts", "find", "(LCellForge$Graph;I)Z"⟩ : MethodName) prog_4_method_7_code 4 (Option.some Jvm.ClassFile.FieldType.boolean) ∈ cfB := cf_in 1276 (by decide +kernel) rfl
theorem wv_1274 : Cond.instanceMethod (⟨"CellForge$Cuts", "find", "(LCellForge$Graph;I)Z"⟩ : MethodName) ∈ cfB := cf_in 1274 (by decide +kernel) rfl
theorem wv_1275 : Cond.selects "CellForge$Cuts" (⟨"CellForge$Cuts", "find", "(LCellForge$Graph;I)Z"⟩ : MethodName) (⟨"CellForge$Cuts", "find", "(LCellForge$Graph;I)Z"⟩ : MethodName) ∈ cfB := cf_in 1275 (by decide +kernel) rfl
def IhF_put (p : Program) (l : Launch) (e : Env) (s : State) (m : MethodId) (below : List Frame) (meth : Method) (c : Code) (A : Nat → Prop) (D : va_G) (K : Nat → ClassId) (h0 : Nat) (AR : Array Value) (n : Nat) : Prop := (∀ (v1 : Int32) (v2 : Int32) (v3 : Int32) (o0 : cf_O) (o1 : cf_O) (r : Int32 × cf_O × cf_O), gF_put n 0 v1 v2 v3 o0 o1 = some r → ∀ {h1 z1 z2 z3 z4 z5 z6 z7 z8 z9 z10 z11 z12 z13 z14 : Nat} {a1 : Nat → Nat} {H : Heap} {locs : List Loc} {ls : Array Slot}, (va_P D vwCl (wF K h0 (fF [h1, z1, z2, z3, z4, z5, z6, z7, z8, z9, z10, z11, z12, z13, z14]) o0 ++ wTx K h1 a1 o1) H) → (va_D A (wF K h0 (fF [h1, z1, z2, z3, z4, z5, z6, z7, z8, z9, z10, z11, z12, z13, z14]) o0 ++ wTx K h1 a1 o1)) → va_S A s.heap H locs → lv_has ls 5 [(0, .ref h0), (1, .int v1), (2, .int v2), (3, .int v3)] → W p l e ({ frames := 6, cells := (0 + xc (r.2.1.1 30)), slots := (0 + 6 * xc (r.2.1.1 30)), locals := 120 }) s m AR below meth c H locs 0 0 (xq below (r.2.1.1 30) (va_Qi (fun (x : Int32) (_ : uF) => x = r.1) (fun (u : uF) t => cf_At D A (wF K h0 (fF [h1, z1, z2, z3, z4, z5, z6, z7, z8, z9, z10, z11, z12, z13, z14]) r.2.1 ++ wTx K h1 a1 r.2.2) t) A) D (fun (u : uF) => wF K h0 (fF [h1, z1, z2, z3, z4, z5, z6, z7, z8, z9, z10, z11, z12, z13, z14]) r.2.1 ++ wTx K h1 a1 r.2.2) A AR s (0 + xc (r.2.1.1 30)) (0 + 6 * xc (r.2.1.1 30))) (F0 m 4 ls [])) ∧ (∀ (v1 : Int32) (v3 : Int32) (o0 : cf_O) (o1 : cf_O) (r : Int32 × cf_O × cf_O), gF_put n 1 v1 0 v3 o0 o1 = some r → ∀ {h1 z1 z2 z3 z4 z5 z6 z7 z8 z9 z10 z11 z12 z13 z14 : Nat} {a1 : Nat → Nat} {H : Heap} {locs : List Loc} {ls : Array Slot}, (va_P D vwCl (wF K h0 (fF [h1, z1, z2, z3, z4, z5, z6, z7, z8, z9, z10, z11, z12, z13, z14]) o0 ++ wTx K h1 a1 o1) H) → (va_D A (wF K h0 (fF [h1, z1, z2, z3, z4, z5, z6, z7, z8, z9, z10, z11, z12, z13, z14]) o0 ++ wTx K h1 a1 o1)) → va_S A s.heap H locs → lv_has ls 5 [(0, .ref h0), (1, .int v1), (3, .int v3)] → W p l e ({ frames := 6, cells := (0 + xc (r.2.1.1 30)), slots := (0 + 6 * xc (r.2.1.1 30)), locals := 120 }) s m AR below meth c H locs 0 0 (xq below (r.2.1.1 30) (va_Qi (fun (x : Int32) (_ : uF) => x = r.1) (fun (u : uF) t => cf_At D A (wF K h0 (fF [h1, z1, z2, z3, z4, z5, z6, z7, z8, z9, z10, z11, z12, z13, z14]) r.2.1 ++ wTx K h1 a1 r.2.2) t) A) D (fun (u : uF) => wF K h0 (fF [h1, z1, z2, z3, z4, z5, z6, z7, z8, z9, z10, z11, z12, z13, z14]) r.2.1 ++ wTx K h1 a1 r.2.2) A AR s (0 + xc (r.2.1.1 30)) (0 + 6 * xc (r.2.1.1 30))) (F0 m 86 ls []))
set_option maxHeartbeats 4000000 in
set_option maxRecDepth 100000 in
theorem bF_put_108 {p : Program} {l : Launch} {e : Env} {s : State} {m : MethodId} {below : List Frame} {meth : Method} {c : Code} {A : Nat → Prop} {D : va_G} {K : Nat → ClassId} {h0 : Nat} {AR : Array Value} (C : ((dc_C p s m AR meth c cF_put 5 (Option.some Jvm.ClassFile.FieldType.int) yF_put ∧ cf_E D K A s s.heap ∧ ∀ q, s.heap.size ≤ q → A q) ∧ (∀ x ∈ c.exceptionTable.toList, False) ∧ l.stackTraces = false)) {n : Nat} (ih : IhF_put p l e s m below meth c A D K h0 AR n) (v1 : Int32) (v3 : Int32) (o0 : cf_O) (o1 : cf_O) (r : Int32 × cf_O × cf_O) (h : fF_put_108 (gF_put n) v1 v3 o0 o1 = some r) {h1 z1 z2 z3 z4 z5 z6 z7 z8 z9 z10 z11 z12 z13 z14 : Nat} {a1 : Nat → Nat} {H : Heap} {locs : List Loc} {ls : Array Slot} (hP : va_P D vwCl (wF K h0 (fF [h1, z1, z2, z3, z4, z5, z6, z7, z8, z9, z10, z11, z12, z13, z14]) o0 ++ wTx K h1 a1 o1) H) (hD : va_D A (wF K h0 (fF [h1, z1, z2, z3, z4, z5, z6, z7, z8, z9, z10, z11, z12, z13, z14]) o0 ++ wTx K h1 a1 o1)) (hS : va_S A s.heap H locs) (hl : lv_has ls 5 [(0, .ref h0), (1, .int v1), (3, .int v3)]) : W p l e ({ frames := 6, cells := (0 + xc (r.2.1.1 30)), slots := (0 + 6 * xc (r.2.1.1 30)), locals := 120 }) s m AR below meth c H locs 0 0 (xq below (r.2.1.1 30) (va_Qi (fun (x : Int32) (_ : uF) => x = r.1) (fun (u : uF) t => cf_At D A (wF K h0 (fF [h1, z1, z2, z3, z4, z5, z6, z7, z8, z9, z10, z11, z12, z13, z14]) r.2.1 ++ wTx K h1 a1 r.2.2) t) A) D (fun (u : uF) => wF K h0 (fF [h1, z1, z2, z3, z4, z5, z6, z7, z8, z9, z10, z11, z12, z13, z14]) r.2.1 ++ wTx K h1 a1 r.2.2) A AR s (0 + xc (r.2.1.1 30)) (0 + 6 * xc (r.2.1.1 30))) (F0 m 108 ls []) := by
  have hEx := C.2.1
  have hl9 := C.2.2
  obtain ⟨⟨hx, hb, hr, hts, hown, hlocks, hin, hml⟩, hE, hA⟩ := id C.1
  have hK := hE.k
  obtain ⟨x_1, ex_1⟩ : ∃ y : Int32, y = v3 + 1 := ⟨_, rfl⟩
  refine lv_iinc (v := x_1) (lv' := [(3, .int x_1), (0, .ref h0), (1, .int v1)]) hx hb dF_put_108 hl (k := 2) rfl (by rw [ex_1]; rfl) (by decide) rfl (fun ls hl => ?_)
  have h := op_ks ex_1 h
  refine lv_goto (tgt := 86) hx hb dF_put_111 (by decide) ?_
  exact (ih.2) _ _ _ _ _ h hP hD hS (lv_sub hl [1, 2, 0] rfl)
set_option maxHeartbeats 4000000 in
set_option maxRecDepth 100000 in
theorem bF_put_86 {p : Program} {l : Launch} {e : Env} {s : State} {m : MethodId} {below : List Frame} {meth : Method} {c : Code} {A : Nat → Prop} {D : va_G} {K : Nat → ClassId} {h0 : Nat} {AR : Array Value} (C : ((dc_C p s m AR meth c cF_put 5 (Option.some Jvm.ClassFile.FieldType.int) yF_put ∧ cf_E D K A s s.heap ∧ ∀ q, s.heap.size ≤ q → A q) ∧ (∀ x ∈ c.exceptionTable.toList, False) ∧ l.stackTraces = false)) {n : Nat} (ih : IhF_put p l e s m below meth c A D K h0 AR n) (v1 : Int32) (v3 : Int32) (o0 : cf_O) (o1 : cf_O) (r : Int32 × cf_O × cf_O) (h : fF_put_86 (gF_put n) v1 v3 o0 o1 = some r) {h1 z1 z2 z3 z4 z5 z6 z7 z8 z9 z10 z11 z12 z13 z14 : Nat} {a1 : Nat → Nat} {H : Heap} {locs : List Loc} {ls : Array Slot} (hP : va_P D vwCl (wF K h0 (fF [h1, z1, z2, z3, z4, z5, z6, z7, z8, z9, z10, z11, z12, z13, z14]) o0 ++ wTx K h1 a1 o1) H) (hD : va_D A (wF K h0 (fF [h1, z1, z2, z3, z4, z5, z6, z7, z8, z9, z10, z11, z12, z13, z14]) o0 ++ wTx K h1 a1 o1)) (hS : va_S A s.heap H locs) (hl : lv_has ls 5 [(0, .ref h0), (1, .int v1), (3, .int v3)]) : W p l e ({ frames := 6, cells := (0 + xc (r.2.1.1 30)), slots := (0 + 6 * xc (r.2.1.1 30)), locals := 120 }) s m AR below meth c H locs 0 0 (xq below (r.2.1.1 30) (va_Qi (fun (x : Int32) (_ : uF) => x = r.1) (fun (u : uF) t => cf_At D A (wF K h0 (fF [h1, z1, z2, z3, z4, z5, z6, z7, z8, z9, z10, z11, z12, z13, z14]) r.2.1 ++ wTx K h1 a1 r.2.2) t) A) D (fun (u : uF) => wF K h0 (fF [h1, z1, z2, z3, z4, z5, z6, z7, z8, z9, z10, z11, z12, z13, z14]) r.2.1 ++ wTx K h1 a1 r.2.2) A AR s (0 + xc (r.2.1.1 30)) (0 + 6 * xc (r.2.1.1 30))) (F0 m 86 ls []) := by
  have hEx := C.2.1
  have hl9 := C.2.2
  obtain ⟨⟨hx, hb, hr, hts, hown, hlocks, hin, hml⟩, hE, hA⟩ := id C.1
  have hK := hE.k
  refine lv_iload_n hx hb dF_put_86 rfl (lv_at hl 2 rfl) ?_
  refine lv_iconst (v := 4) hx hb dF_put_87 (by decide) ?_
  refine lv_icmp_ge (tgt := 114) hx hb dF_put_88 (by decide) (fun c_1 => ?_) (fun c_1 => ?_)
  · have h := op_t c_1 h
    refine lv_aload_n hx hb dF_put_114 rfl (lv_at hl 0 rfl) ?_
    refine va_get (D := D) (ci := 0) (v := .ref h1) (C := RF) (T := TF) (N := 19) hx hb hts inF hown hK hP 0 rfl rfl 0 (by decide) (hts _ wv_661) (fun _ h9 => h9) rfl dF_put_115 ?_
    refine va_get (D := D) (ci := 1) (v := .int (o1.1 3)) (C := RTx) (T := TTx) (N := 7) hx hb hts inTx hown hK hP 1 rfl rfl 3 (by decide) (hts _ wv_208) (fun _ h9 => h9) rfl dF_put_118 ?_
    obtain rfl := Option.some.inj h
    exact dc_iretF ((fF [h1, z1, z2, z3, z4, z5, z6, z7, z8, z9, z10, z11, z12, z13, z14]), (vF [(fun _ => 0), a1])) rfl hx hb hr hlocks rfl (hP.sub [0, 1, 2, 3, 4] rfl) (hD.sub [0, 1, 2, 3, 4] (by decide +kernel) rfl) hS (Nat.zero_le _) (Nat.zero_le _) dF_put_121
  · have h := op_f c_1 h
    refine lv_aload_n hx hb dF_put_91 rfl (lv_at hl 0 rfl) ?_
    refine va_get (D := D) (ci := 0) (v := .ref h1) (C := RF) (T := TF) (N := 19) hx hb hts inF hown hK hP 0 rfl rfl 0 (by decide) (hts _ wv_661) (fun _ h9 => h9) rfl dF_put_92 ?_
    refine lv_iload_n hx hb dF_put_95 rfl (lv_at hl 1 rfl) ?_
    refine lv_bipush (v := 8) hx hb dF_put_96 (by decide) ?_
    refine lv_iload_n hx hb dF_put_98 rfl (lv_at hl 2 rfl) ?_
    refine lv_imul hx hb dF_put_99 ?_
    refine lv_topi (fun x_2 ex_2 => ?_)
    have h := op_ks ex_2 h
    refine lv_iushr hx hb dF_put_100 rfl ?_
    refine lv_topi (fun x_3 ex_3 => ?_)
    have h := op_ks ex_3 h
    refine lv_sipush (v := 255) hx hb dF_put_101 (by decide) ?_
    refine lv_iand hx hb dF_put_104 ?_
    refine lv_topi (fun x_4 ex_4 => ?_)
    have h := op_ks ex_4 h
    obtain ⟨q_5, hq_5, h⟩ := op_b h
    refine cf_callv (wc := wTx K h1 a1 o1) (wr := wF K h0 (fF [h1, z1, z2, z3, z4, z5, z6, z7, z8, z9, z10, z11, z12, z13, z14]) o0) (va_runV (As := [.int x_4]) (rest := []) ⟨hx, hb, hml, hown, hts⟩ (mTx_add l D K _ x_4 h1 a1 o1 _ hq_5) (cwV 1 hts (cf_GV wv_947 wv_948 wv_949 wv_158 wv_950) rfl rfl rfl (by decide +kernel) ⟨Nat.le_of_ble_eq_true rfl, Nat.le_of_ble_eq_true rfl⟩) (cf_preV (wc := wTx K h1 a1 o1) hE hP hD hS hA rfl 1 rfl [1, 2, 3, 4] rfl (by decide +kernel)) rfl rfl hl.1 rfl (lv_room (Nat.le_of_ble_eq_true rfl)) dF_put_105 ⟨Nat.zero_le _, Nat.zero_le _⟩) hP hD hS hA [1, 2, 3, 4] [0] rfl rfl (by decide +kernel) (by decide +kernel) (fun _ H locs hw_6 hP hD hS => ?_)
    have hP : va_P D vwCl (wF K h0 (fF [h1, z1, z2, z3, z4, z5, z6, z7, z8, z9, z10, z11, z12, z13, z14]) o0 ++ wTx K h1 a1 q_5) H := hP.sub [0, 1, 2, 3, 4] rfl
    have hD : va_D A (wF K h0 (fF [h1, z1, z2, z3, z4, z5, z6, z7, z8, z9, z10, z11, z12, z13, z14]) o0 ++ wTx K h1 a1 q_5) := hD.sub [0, 1, 2, 3, 4] (by decide +kernel) rfl
    exact bF_put_108 C ih _ _ _ _ _ h hP hD hS (lv_sub hl [0, 1, 2] rfl)
set_option maxHeartbeats 4000000 in
set_option maxRecDepth 100000 in
theorem bF_put_53 {p : Program} {l : Launch} {e : Env} {s : State} {m : MethodId} {below : List Frame} {meth : Method} {c : Code} {A : Nat → Prop} {D : va_G} {K : Nat → ClassId} {h0 : Nat} {AR : Array Value} (C : ((dc_C p s m AR meth c cF_put 5 (Option.some Jvm.ClassFile.FieldType.int) yF_put ∧ cf_E D K A s s.heap ∧ ∀ q, s.heap.size ≤ q → A q) ∧ (∀ x ∈ c.exceptionTable.toList, False) ∧ l.stackTraces = false)) {n : Nat} (ih : IhF_put p l e s m below meth c A D K h0 AR n) (v1 : Int32) (v3 : Int32) (s0 : Int32) (s1 : Int32) (o0 : cf_O) (o1 : cf_O) (r : Int32 × cf_O × cf_O) (h : fF_put_53 (gF_put n) v1 v3 s0 s1 o0 o1 = some r) {h1 z1 z2 z3 z4 z5 z6 z7 z8 z9 z10 z11 z12 z13 z14 : Nat} {a1 : Nat → Nat} {H : Heap} {locs : List Loc} {ls : Array Slot} (hP : va_P D vwCl (wF K h0 (fF [h1, z1, z2, z3, z4, z5, z6, z7, z8, z9, z10, z11, z12, z13, z14]) o0 ++ wTx K h1 a1 o1) H) (hD : va_D A (wF K h0 (fF [h1, z1, z2, z3, z4, z5, z6, z7, z8, z9, z10, z11, z12, z13, z14]) o0 ++ wTx K h1 a1 o1)) (hS : va_S A s.heap H locs) (hl : lv_has ls 5 [(0, .ref h0), (1, .int v1), (3, .int v3)]) : W p l e ({ frames := 6, cells := (0 + xc (r.2.1.1 30)), slots := (0 + 6 * xc (r.2.1.1 30)), locals := 120 }) s m AR below meth c H locs 0 0 (xq below (r.2.1.1 30) (va_Qi (fun (x : Int32) (_ : uF) => x = r.1) (fun (u : uF) t => cf_At D A (wF K h0 (fF [h1, z1, z2, z3, z4, z5, z6, z7, z8, z9, z10, z11, z12, z13, z14]) r.2.1 ++ wTx K h1 a1 r.2.2) t) A) D (fun (u : uF) => wF K h0 (fF [h1, z1, z2, z3, z4, z5, z6, z7, z8, z9, z10, z11, z12, z13, z14]) r.2.1 ++ wTx K h1 a1 r.2.2) A AR s (0 + xc (r.2.1.1 30)) (0 + 6 * xc (r.2.1.1 30))) (F0 m 53 ls [.int s1, .int s0]) := by
  have hEx := C.2.1
  have hl9 := C.2.2
  obtain ⟨⟨hx, hb, hr, hts, hown, hlocks, hin, hml⟩, hE, hA⟩ := id C.1
  have hK := hE.k
  refine lv_iadd hx hb dF_put_53 ?_
  refine lv_topi (fun x_1 ex_1 => ?_)
  have h := op_ks ex_1 h
  refine lv_istore_n (lv' := [(2, .int x_1), (0, .ref h0), (1, .int v1), (3, .int v3)]) hx hb dF_put_54 rfl hl (by decide) rfl (fun ls hl => ?_)
  obtain ⟨x_2, ex_2⟩ : ∃ y : Int32, y = v3 + 1 := ⟨_, rfl⟩
  refine lv_iinc (v := x_2) (lv' := [(3, .int x_2), (2, .int x_1), (0, .ref h0), (1, .int v1)]) hx hb dF_put_55 hl (k := 3) rfl (by rw [ex_2]; rfl) (by decide) rfl (fun ls hl => ?_)
  have h := op_ks ex_2 h
  refine lv_goto (tgt := 4) hx hb dF_put_58 (by decide) ?_
  exact (ih.1) _ _ _ _ _ _ h hP hD hS (lv_sub hl [2, 3, 1, 0] rfl)
set_option maxHeartbeats 4000000 in
set_option maxRecDepth 100000 in
theorem bF_put_42 {p : Program} {l : Launch} {e : Env} {s : State} {m : MethodId} {below : List Frame} {meth : Method} {c : Code} {A : Nat → Prop} {D : va_G} {K : Nat → ClassId} {h0 : Nat} {AR : Array Value} (C : ((dc_C p s m AR meth c cF_put 5 (Option.some Jvm.ClassFile.FieldType.int) yF_put ∧ cf_E D K A s s.heap ∧ ∀ q, s.heap.size ≤ q → A q) ∧ (∀ x ∈ c.exceptionTable.toList, False) ∧ l.stackTraces = false)) {n : Nat} (ih : IhF_put p l e s m below meth c A D K h0 AR n) (v1 : Int32) (v2 : Int32) (v3 : Int32) (v4 : Int32) (o0 : cf_O) (o1 : cf_O) (r : Int32 × cf_O × cf_O) (h : fF_put_42 (gF_put n) v1 v2 v3 v4 o0 o1 = some r) {h1 z1 z2 z3 z4 z5 z6 z7 z8 z9 z10 z11 z12 z13 z14 : Nat} {a1 : Nat → Nat} {H : Heap} {locs : List Loc} {ls : Array Slot} (hP : va_P D vwCl (wF K h0 (fF [h1, z1, z2, z3, z4, z5, z6, z7, z8, z9, z10, z11, z12, z13, z14]) o0 ++ wTx K h1 a1 o1) H) (hD : va_D A (wF K h0 (fF [h1, z1, z2, z3, z4, z5, z6, z7, z8, z9, z10, z11, z12, z13, z14]) o0 ++ wTx K h1 a1 o1)) (hS : va_S A s.heap H locs) (hl : lv_has ls 5 [(0, .ref h0), (1, .int v1), (2, .int v2), (3, .int v3), (4, .int v4)]) : W p l e ({ frames := 6, cells := (0 + xc (r.2.1.1 30)), slots := (0 + 6 * xc (r.2.1.1 30)), locals := 120 }) s m AR below meth c H locs 0 0 (xq below (r.2.1.1 30) (va_Qi (fun (x : Int32) (_ : uF) => x = r.1) (fun (u : uF) t => cf_At D A (wF K h0 (fF [h1, z1, z2, z3, z4, z5, z6, z7, z8, z9, z10, z11, z12, z13, z14]) r.2.1 ++ wTx K h1 a1 r.2.2) t) A) D (fun (u : uF) => wF K h0 (fF [h1, z1, z2, z3, z4, z5, z6, z7, z8, z9, z10, z11, z12, z13, z14]) r.2.1 ++ wTx K h1 a1 r.2.2) A AR s (0 + xc (r.2.1.1 30)) (0 + 6 * xc (r.2.1.1 30))) (F0 m 42 ls []) := by
  have hEx := C.2.1
  have hl9 := C.2.2
  obtain ⟨⟨hx, hb, hr, hts, hown, hlocks, hin, hml⟩, hE, hA⟩ := id C.1
  have hK := hE.k
  refine lv_iload_n hx hb dF_put_42 rfl (lv_at hl 2 rfl) ?_
  refine lv_iload hx hb dF_put_43 (lv_at hl 4 rfl) ?_
  refine lv_if_ne (tgt := 52) hx hb dF_put_45 (by decide) (fun c_1 => ?_) (fun c_1 => ?_)
  · have h := op_f c_1 h
    refine lv_iconst (v := 1) hx hb dF_put_52 (by decide) ?_
    exact bF_put_53 C ih _ _ _ _ _ _ _ h hP hD hS (lv_sub hl [0, 1, 3] rfl)
  · have h := op_t c_1 h
    refine lv_iconst (v := 0) hx hb dF_put_48 (by decide) ?_
    refine lv_goto (tgt := 53) hx hb dF_put_49 (by decide) ?_
    exact bF_put_53 C ih _ _ _ _ _ _ _ h hP hD hS (lv_sub hl [0, 1, 3] rfl)
set_option maxHeartbeats 4000000 in
set_option maxRecDepth 100000 in
theorem bF_put_31 {p : Program} {l : Launch} {e : Env} {s : State} {m : MethodId} {below : List Frame} {meth : Method} {c : Code} {A : Nat → Prop} {D : va_G} {K : Nat → ClassId} {h0 : Nat} {AR : Array Value} (C : ((dc_C p s m AR meth c cF_put 5 (Option.some Jvm.ClassFile.FieldType.int) yF_put ∧ cf_E D K A s s.heap ∧ ∀ q, s.heap.size ≤ q → A q) ∧ (∀ x ∈ c.exceptionTable.toList, False) ∧ l.stackTraces = false)) {n : Nat} (ih : IhF_put p l e s m below meth c A D K h0 AR n) (v1 : Int32) (v2 : Int32) (v3 : Int32) (v4 : Int32) (s0 : Int32) (o0 : cf_O) (o1 : cf_O) (r : Int32 × cf_O × cf_O) (h : fF_put_31 (gF_put n) v1 v2 v3 v4 s0 o0 o1 = some r) {h1 z1 z2 z3 z4 z5 z6 z7 z8 z9 z10 z11 z12 z13 z14 : Nat} {a1 : Nat → Nat} {H : Heap} {locs : List Loc} {ls : Array Slot} (hP : va_P D vwCl (wF K h0 (fF [h1, z1, z2, z3, z4, z5, z6, z7, z8, z9, z10, z11, z12, z13, z14]) o0 ++ wTx K h1 a1 o1) H) (hD : va_D A (wF K h0 (fF [h1, z1, z2, z3, z4, z5, z6, z7, z8, z9, z10, z11, z12, z13, z14]) o0 ++ wTx K h1 a1 o1)) (hS : va_S A s.heap H locs) (hl : lv_has ls 5 [(0, .ref h0), (1, .int v1), (2, .int v2), (3, .int v3), (4, .int v4)]) : W p l e ({ frames := 6, cells := (0 + xc (r.2.1.1 30)), slots := (0 + 6 * xc (r.2.1.1 30)), locals := 120 }) s m AR below meth c H locs 0 0 (xq below (r.2.1.1 30) (va_Qi (fun (x : Int32) (_ : uF) => x = r.1) (fun (u : uF) t => cf_At D A (wF K h0 (fF [h1, z1, z2, z3, z4, z5, z6, z7, z8, z9, z10, z11, z12, z13, z14]) r.2.1 ++ wTx K h1 a1 r.2.2) t) A) D (fun (u : uF) => wF K h0 (fF [h1, z1, z2, z3, z4, z5, z6, z7, z8, z9, z10, z11, z12, z13, z14]) r.2.1 ++ wTx K h1 a1 r.2.2) A AR s (0 + xc (r.2.1.1 30)) (0 + 6 * xc (r.2.1.1 30))) (F0 m 31 ls [.int s0]) := by
  have hEx := C.2.1
  have hl9 := C.2.2
  obtain ⟨⟨hx, hb, hr, hts, hown, hlocks, hin, hml⟩, hE, hA⟩ := id C.1
  have hK := hE.k
  refine lv_if_ne (tgt := 42) hx hb dF_put_31 (by decide) (fun c_1 => ?_) (fun c_1 => ?_)
  · have h := op_f c_1 h
    exact bF_put_42 C ih _ _ _ _ _ _ _ h hP hD hS (lv_sub hl [0, 1, 2, 3, 4] rfl)
  · have h := op_t c_1 h
    obtain rfl := Option.some.inj h
    exact xt_throwF (K := K) (E := "java/lang/IllegalArgumentException") (own := "CellForge") (names := ["java/lang/RuntimeException", "java/lang/Exception"]) (ik := 106) (ic := 108) ((fF [h1, z1, z2, z3, z4, z5, z6, z7, z8, z9, z10, z11, z12, z13, z14]), (vF [(fun _ => 0), a1])) (show (1 : Int32) ≠ 0 by decide) (show xE 1 = "java/lang/IllegalArgumentException" from rfl) hx hb hl9 hown (by decide +kernel) (by decide +kernel) wv_865 wv_177 hts (fun s9 hts9 hE9 => xt_atoms hts9 hE9 (by decide +kernel)) hE (hP.sub [0, 1, 2, 3, 4] rfl) (hD.sub [0, 1, 2, 3, 4] (by decide +kernel) rfl) hS hA (hl.1.trans hml.symm) dF_put_34 dF_put_37 dF_put_38 dF_put_41 hEx hlocks (Nat.le_of_ble_eq_true rfl) (Nat.le_of_ble_eq_true rfl) (xc_c (show (1 : Int32) ≠ 0 by decide)) (xc_s (show (1 : Int32) ≠ 0 by decide)) (xc_c (show (1 : Int32) ≠ 0 by decide)) (xc_s (show (1 : Int32) ≠ 0 by decide))
set_option maxHeartbeats 4000000 in
set_option maxRecDepth 100000 in
theorem bF_put_4 {p : Program} {l : Launch} {e : Env} {s : State} {m : MethodId} {below : List Frame} {meth : Method} {c : Code} {A : Nat → Prop} {D : va_G} {K : Nat → ClassId} {h0 : Nat} {AR : Array Value} (C : ((dc_C p s m AR meth c cF_put 5 (Option.some Jvm.ClassFile.FieldType.int) yF_put ∧ cf_E D K A s s.heap ∧ ∀ q, s.heap.size ≤ q → A q) ∧ (∀ x ∈ c.exceptionTable.toList, False) ∧ l.stackTraces = false)) {n : Nat} (ih : IhF_put p l e s m below meth c A D K h0 AR n) (v1 : Int32) (v2 : Int32) (v3 : Int32) (o0 : cf_O) (o1 : cf_O) (r : Int32 × cf_O × cf_O) (h : fF_put_4 (gF_put n) v1 v2 v3 o0 o1 = some r) {h1 z1 z2 z3 z4 z5 z6 z7 z8 z9 z10 z11 z12 z13 z14 : Nat} {a1 : Nat → Nat} {H : Heap} {locs : List Loc} {ls : Array Slot} (hP : va_P D vwCl (wF K h0 (fF [h1, z1, z2, z3, z4, z5, z6, z7, z8, z9, z10, z11, z12, z13, z14]) o0 ++ wTx K h1 a1 o1) H) (hD : va_D A (wF K h0 (fF [h1, z1, z2, z3, z4, z5, z6, z7, z8, z9, z10, z11, z12, z13, z14]) o0 ++ wTx K h1 a1 o1)) (hS : va_S A s.heap H locs) (hl : lv_has ls 5 [(0, .ref h0), (1, .int v1), (2, .int v2), (3, .int v3)]) : W p l e ({ frames := 6, cells := (0 + xc (r.2.1.1 30)), slots := (0 + 6 * xc (r.2.1.1 30)), locals := 120 }) s m AR below meth c H locs 0 0 (xq below (r.2.1.1 30) (va_Qi (fun (x : Int32) (_ : uF) => x = r.1) (fun (u : uF) t => cf_At D A (wF K h0 (fF [h1, z1, z2, z3, z4, z5, z6, z7, z8, z9, z10, z11, z12, z13, z14]) r.2.1 ++ wTx K h1 a1 r.2.2) t) A) D (fun (u : uF) => wF K h0 (fF [h1, z1, z2, z3, z4, z5, z6, z7, z8, z9, z10, z11, z12, z13, z14]) r.2.1 ++ wTx K h1 a1 r.2.2) A AR s (0 + xc (r.2.1.1 30)) (0 + 6 * xc (r.2.1.1 30))) (F0 m 4 ls []) := by
  have hEx := C.2.1
  have hl9 := C.2.2
  obtain ⟨⟨hx, hb, hr, hts, hown, hlocks, hin, hml⟩, hE, hA⟩ := id C.1
  have hK := hE.k
  refine lv_iload_n hx hb dF_put_4 rfl (lv_at hl 3 rfl) ?_
  refine lv_iconst (v := 4) hx hb dF_put_5 (by decide) ?_
  refine lv_icmp_ge (tgt := 61) hx hb dF_put_6 (by decide) (fun c_1 => ?_) (fun c_1 => ?_)
  · have h := op_t c_1 h
    refine lv_aload_n hx hb dF_put_61 rfl (lv_at hl 0 rfl) ?_
    refine va_get (D := D) (ci := 0) (v := .ref h1) (C := RF) (T := TF) (N := 19) hx hb hts inF hown hK hP 0 rfl rfl 0 (by decide) (hts _ wv_661) (fun _ h9 => h9) rfl dF_put_62 ?_
    refine va_get (D := D) (ci := 1) (v := .int (o1.1 3)) (C := RTx) (T := TTx) (N := 7) hx hb hts inTx hown hK hP 1 rfl rfl 3 (by decide) (hts _ wv_208) (fun _ h9 => h9) rfl dF_put_65 ?_
    refine lv_iload_n hx hb dF_put_68 rfl (lv_at hl 2 rfl) ?_
    refine lv_iadd hx hb dF_put_69 ?_
    refine lv_topi (fun x_2 ex_2 => ?_)
    have h := op_ks ex_2 h
    refine lv_sipush (v := 1600) hx hb dF_put_70 (by decide) ?_
    refine lv_icmp_le (tgt := 84) hx hb dF_put_73 (by decide) (fun c_3 => ?_) (fun c_3 => ?_)
    · have h := op_t c_3 h
      refine lv_iconst (v := 0) hx hb dF_put_84 (by decide) ?_
      refine lv_istore_n (lv' := [(3, .int 0), (0, .ref h0), (1, .int v1), (2, .int v2)]) hx hb dF_put_85 rfl hl (by decide) rfl (fun ls hl => ?_)
      exact (ih.2) _ _ _ _ _ h hP hD hS (lv_sub hl [1, 2, 0] rfl)
    · have h := op_f c_3 h
      obtain rfl := Option.some.inj h
      exact xt_throwF (K := K) (E := "java/lang/UnsupportedOperationException") (own := "CellForge") (names := ["java/lang/RuntimeException", "java/lang/Exception"]) (ik := 112) (ic := 114) ((fF [h1, z1, z2, z3, z4, z5, z6, z7, z8, z9, z10, z11, z12, z13, z14]), (vF [(fun _ => 0), a1])) (show (4 : Int32) ≠ 0 by decide) (show xE 4 = "java/lang/UnsupportedOperationException" from rfl) hx hb hl9 hown (by decide +kernel) (by decide +kernel) wv_932 wv_178 hts (fun s9 hts9 hE9 => xt_atoms hts9 hE9 (by decide +kernel)) hE (hP.sub [0, 1, 2, 3, 4] rfl) (hD.sub [0, 1, 2, 3, 4] (by decide +kernel) rfl) hS hA (hl.1.trans hml.symm) dF_put_76 dF_put_79 dF_put_80 dF_put_83 hEx hlocks (Nat.le_of_ble_eq_true rfl) (Nat.le_of_ble_eq_true rfl) (xc_c (show (4 : Int32) ≠ 0 by decide)) (xc_s (show (4 : Int32) ≠ 0 by decide)) (xc_c (show (4 : Int32) ≠ 0 by decide)) (xc_s (show (4 : Int32) ≠ 0 by decide))
  · have h := op_f c_1 h
    refine lv_iload_n hx hb dF_put_9 rfl (lv_at hl 1 rfl) ?_
    refine lv_bipush (v := 8) hx hb dF_put_10 (by decide) ?_
    refine lv_iload_n hx hb dF_put_12 rfl (lv_at hl 3 rfl) ?_
    refine lv_imul hx hb dF_put_13 ?_
    refine lv_topi (fun x_4 ex_4 => ?_)
    have h := op_ks ex_4 h
    refine lv_iushr hx hb dF_put_14 rfl ?_
    refine lv_topi (fun x_5 ex_5 => ?_)
    have h := op_ks ex_5 h
    refine lv_sipush (v := 255) hx hb dF_put_15 (by decide) ?_
    refine lv_iand hx hb dF_put_18 ?_
    refine lv_topi (fun x_6 ex_6 => ?_)
    have h := op_ks ex_6 h
    refine lv_istore (lv' := [(4, .int x_6), (0, .ref h0), (1, .int v1), (2, .int v2), (3, .int v3)]) hx hb dF_put_19 hl (by decide) rfl (fun ls hl => ?_)
    refine lv_iload hx hb dF_put_21 (lv_at hl 0 rfl) ?_
    refine lv_if_eq (tgt := 42) hx hb dF_put_23 (by decide) (fun c_7 => ?_) (fun c_7 => ?_)
    · have h := op_t c_7 h
      exact bF_put_42 C ih _ _ _ _ _ _ _ h hP hD hS (lv_sub hl [1, 2, 3, 4, 0] rfl)
    · have h := op_f c_7 h
      refine lv_iload hx hb dF_put_26 (lv_at hl 0 rfl) ?_
      obtain ⟨q_8, hq_8, h⟩ := op_b h
      refine cf_pcalli (va_runS (As := [.int x_6]) (rest := []) ⟨hx, hb, hml, hown, hts⟩ (mTx_isSign l x_6 _ hq_8) (va_cwS 1 hts (cf_GS wv_862 wv_863 wv_158 wv_864) rfl rfl rfl (by decide +kernel) ⟨Nat.le_of_ble_eq_true rfl, Nat.le_of_ble_eq_true rfl⟩) preEq rfl rfl hl.1 rfl (lv_room (Nat.le_of_ble_eq_true rfl)) dF_put_28 ⟨Nat.zero_le _, Nat.zero_le _⟩) (fun r_9 hw_10 => ?_)
      subst r_9
      exact bF_put_31 C ih _ _ _ _ _ _ _ _ h hP hD hS (lv_sub hl [1, 2, 3, 4, 0] rfl)
set_option maxHeartbeats 4000000 in
set_option maxRecDepth 100000 in
theorem bF_put_0 {p : Program} {l : Launch} {e : Env} {s : State} {m : MethodId} {below : List Frame} {meth : Method} {c : Code} {A : Nat → Prop} {D : va_G} {K : Nat → ClassId} {h0 : Nat} {AR : Array Value} (C : ((dc_C p s m AR meth c cF_put 5 (Option.some Jvm.ClassFile.FieldType.int) yF_put ∧ cf_E D K A s s.heap ∧ ∀ q, s.heap.size ≤ q → A q) ∧ (∀ x ∈ c.exceptionTable.toList, False) ∧ l.stackTraces = false)) {n : Nat} (ih : IhF_put p l e s m below meth c A D K h0 AR n) (v1 : Int32) (o0 : cf_O) (o1 : cf_O) (r : Int32 × cf_O × cf_O) (h : fF_put_0 (gF_put n) v1 o0 o1 = some r) {h1 z1 z2 z3 z4 z5 z6 z7 z8 z9 z10 z11 z12 z13 z14 : Nat} {a1 : Nat → Nat} {H : Heap} {locs : List Loc} {ls : Array Slot} (hP : va_P D vwCl (wF K h0 (fF [h1, z1, z2, z3, z4, z5, z6, z7, z8, z9, z10, z11, z12, z13, z14]) o0 ++ wTx K h1 a1 o1) H) (hD : va_D A (wF K h0 (fF [h1, z1, z2, z3, z4, z5, z6, z7, z8, z9, z10, z11, z12, z13, z14]) o0 ++ wTx K h1 a1 o1)) (hS : va_S A s.heap H locs) (hl : lv_has ls 5 [(0, .ref h0), (1, .int v1)]) : W p l e ({ frames := 6, cells := (0 + xc (r.2.1.1 30)), slots := (0 + 6 * xc (r.2.1.1 30)), locals := 120 }) s m AR below meth c H locs 0 0 (xq below (r.2.1.1 30) (va_Qi (fun (x : Int32) (_ : uF) => x = r.1) (fun (u : uF) t => cf_At D A (wF K h0 (fF [h1, z1, z2, z3, z4, z5, z6, z7, z8, z9, z10, z11, z12, z13, z14]) r.2.1 ++ wTx K h1 a1 r.2.2) t) A) D (fun (u : uF) => wF K h0 (fF [h1, z1, z2, z3, z4, z5, z6, z7, z8, z9, z10, z11, z12, z13, z14]) r.2.1 ++ wTx K h1 a1 r.2.2) A AR s (0 + xc (r.2.1.1 30)) (0 + 6 * xc (r.2.1.1 30))) (F0 m 0 ls []) := by
  have hEx := C.2.1
  have hl9 := C.2.2
  obtain ⟨⟨hx, hb, hr, hts, hown, hlocks, hin, hml⟩, hE, hA⟩ := id C.1
  have hK := hE.k
  refine lv_iconst (v := 0) hx hb dF_put_0 (by decide) ?_
  refine lv_istore_n (lv' := [(2, .int 0), (0, .ref h0), (1, .int v1)]) hx hb dF_put_1 rfl hl (by decide) rfl (fun ls hl => ?_)
  refine lv_iconst (v := 0) hx hb dF_put_2 (by decide) ?_
  refine lv_istore_n (lv' := [(3, .int 0), (2, .int 0), (0, .ref h0), (1, .int v1)]) hx hb dF_put_3 rfl hl (by decide) rfl (fun ls hl => ?_)
  exact (ih.1) _ _ _ _ _ _ h hP hD hS (lv_sub hl [2, 3, 1, 0] rfl)
theorem iiF_put {p : Program} {l : Launch} {e : Env} {s : State} {m : MethodId} {below : List Frame} {meth : Method} {c : Code} {A : Nat → Prop} {D : va_G} {K : Nat → ClassId} {h0 : Nat} {AR : Array Value} (C : ((dc_C p s m AR meth c cF_put 5 (Option.some Jvm.ClassFile.FieldType.int) yF_put ∧ cf_E D K A s s.heap ∧ ∀ q, s.heap.size ≤ q → A q) ∧ (∀ x ∈ c.exceptionTable.toList, False) ∧ l.stackTraces = false)) : ∀ n, IhF_put p l e s m below meth c A D K h0 AR n := by
  intro n
  induction n with
  | zero => exact ⟨(fun _ _ _ _ _ r h => by cases (show none = some r from h)), (fun _ _ _ _ r h => by cases (show none = some r from h))⟩
  | succ n ih => exact ⟨fun x0 x1 x2 x3 x4 r h _ _ _ _ _ _ _ _ _ _ _ _ _ _ _ _ _ _ _ hP hD hS hl => bF_put_4 C ih x0 x1 x2 x3 x4 r h hP hD hS hl, fun x0 x1 x2 x3 r h _ _ _ _ _ _ _ _ _ _ _ _ _ _ _ _ _ _ _ hP hD hS hl => bF_put_86 C ih x0 x1 x2 x3 r h hP hD hS hl⟩
set_option maxRecDepth 100000 in
theorem mF_put (l : Launch) (hl9 : l.stackTraces = false) (D : va_G) (K : Nat → ClassId) (sz : Nat) (v1 : Int32) (h0 : Nat) (h1 : Nat) (a1 : Nat → Nat) (z1 : Nat) (z2 : Nat) (z3 : Nat) (z4 : Nat) (z5 : Nat) (z6 : Nat) (z7 : Nat) (z8 : Nat) (z9 : Nat) (z10 : Nat) (z11 : Nat) (z12 : Nat) (z13 : Nat) (z14 : Nat) (o0 : cf_O) (o1 : cf_O) (r : Int32 × cf_O × cf_O) (h : fF_put v1 o0 o1 = some r) (h0c : (r.2.1.1 30) = 0) : Met l yF_put (Cond.code yF_put cF_put 5 (Option.some Jvm.ClassFile.FieldType.int) :: cfB) ({ frames := 6, cells := (0 + xc (r.2.1.1 30)), slots := (0 + 6 * xc (r.2.1.1 30)), locals := 120 }) (va_Pc [.ref h0, .int v1] (cf_Pre D K sz (wF K h0 (fF [h1, z1, z2, z3, z4, z5, z6, z7, z8, z9, z10, z11, z12, z13, z14]) o0 ++ wTx K h1 a1 o1))) (va_Qi (fun (x : Int32) (_ : uF) => x = r.1) (fun (u : uF) t => cf_At D (va_A (wF K h0 (fF [h1, z1, z2, z3, z4, z5, z6, z7, z8, z9, z10, z11, z12, z13, z14]) o0 ++ wTx K h1 a1 o1) sz) (wF K h0 (fF [h1, z1, z2, z3, z4, z5, z6, z7, z8, z9, z10, z11, z12, z13, z14]) r.2.1 ++ wTx K h1 a1 r.2.2) t) (va_A (wF K h0 (fF [h1, z1, z2, z3, z4, z5, z6, z7, z8, z9, z10, z11, z12, z13, z14]) o0 ++ wTx K h1 a1 o1) sz)) (0 + xc (r.2.1.1 30)) (0 + 6 * xc (r.2.1.1 30)) (va_A (wF K h0 (fF [h1, z1, z2, z3, z4, z5, z6, z7, z8, z9, z10, z11, z12, z13, z14]) o0 ++ wTx K h1 a1 o1) sz) := by
  refine cf_ofWF (y := yF_put) (As := [.ref h0, .int v1]) (WS := wF K h0 (fF [h1, z1, z2, z3, z4, z5, z6, z7, z8, z9, z10, z11, z12, z13, z14]) o0 ++ wTx K h1 a1 o1) (maxL := 5) (fun A => (va_Qi (fun (x : Int32) (_ : uF) => x = r.1) (fun (u : uF) t => cf_At D A (wF K h0 (fF [h1, z1, z2, z3, z4, z5, z6, z7, z8, z9, z10, z11, z12, z13, z14]) r.2.1 ++ wTx K h1 a1 r.2.2) t) A)) (by decide) (Nat.le_of_ble_eq_true rfl) ?_
  intro p e s m below meth c A ls En hEx hNS hsz hA hP hD hE hS hl
  have C : ((dc_C p s m (([.ref h0, .int v1] : List Value).toArray) meth c cF_put 5 (Option.some Jvm.ClassFile.FieldType.int) yF_put ∧ cf_E D K A s s.heap ∧ ∀ q, s.heap.size ≤ q → A q) ∧ (∀ x ∈ c.exceptionTable.toList, False) ∧ l.stackTraces = false) := ⟨⟨En, hE, hA⟩, hEx, hl9⟩
  refine W_to (fun t9 h9 => ?_) (bF_put_0 C (iiF_put C cfFU) v1 o0 o1 r h hP hD hS hl)
  rcases h9 with h9 | h9
  · exact h9.2
  · exact absurd h0c h9.1
set_option maxRecDepth 100000 in
theorem zxF_put (l : Launch) (hl9 : l.stackTraces = false) (D : va_G) (K : Nat → ClassId) (sz : Nat) (v1 : Int32) (h0 : Nat) (h1 : Nat) (a1 : Nat → Nat) (z1 : Nat) (z2 : Nat) (z3 : Nat) (z4 : Nat) (z5 : Nat) (z6 : Nat) (z7 : Nat) (z8 : Nat) (z9 : Nat) (z10 : Nat) (z11 : Nat) (z12 : Nat) (z13 : Nat) (z14 : Nat) (o0 : cf_O) (o1 : cf_O) (r : Int32 × cf_O × cf_O) (h : fF_put v1 o0 o1 = some r) (h0c : ¬ (r.2.1.1 30) = 0) : xt_MetG l yF_put (Cond.code yF_put cF_put 5 (Option.some Jvm.ClassFile.FieldType.int) :: cfB) ({ frames := 6, cells := (0 + xc (r.2.1.1 30)), slots := (0 + 6 * xc (r.2.1.1 30)), locals := 120 }) (va_Pc [.ref h0, .int v1] (cf_Pre D K sz (wF K h0 (fF [h1, z1, z2, z3, z4, z5, z6, z7, z8, z9, z10, z11, z12, z13, z14]) o0 ++ wTx K h1 a1 o1))) (xE (r.2.1.1 30)) D (fun (u : uF) => wF K h0 (fF [h1, z1, z2, z3, z4, z5, z6, z7, z8, z9, z10, z11, z12, z13, z14]) r.2.1 ++ wTx K h1 a1 r.2.2) (va_A (wF K h0 (fF [h1, z1, z2, z3, z4, z5, z6, z7, z8, z9, z10, z11, z12, z13, z14]) o0 ++ wTx K h1 a1 o1) sz) (0 + xc (r.2.1.1 30)) (0 + 6 * xc (r.2.1.1 30)) := by
  refine xt_ofWG (y := yF_put) (As := [.ref h0, .int v1]) (WS := wF K h0 (fF [h1, z1, z2, z3, z4, z5, z6, z7, z8, z9, z10, z11, z12, z13, z14]) o0 ++ wTx K h1 a1 o1) (maxL := 5) (by decide) (Nat.le_of_ble_eq_true rfl) ?_
  intro p e s m below meth c A ls En hEx hNS hsz hA hP hD hE hS hl
  have C : ((dc_C p s m (([.ref h0, .int v1] : List Value).toArray) meth c cF_put 5 (Option.some Jvm.ClassFile.FieldType.int) yF_put ∧ cf_E D K A s s.heap ∧ ∀ q, s.heap.size ≤ q → A q) ∧ (∀ x ∈ c.exceptionTable.toList, False) ∧ l.stackTraces = false) := ⟨⟨En, hE, hA⟩, hEx, hl9⟩
  refine W_to (fun t9 h9 => ?_) (bF_put_0 C (iiF_put C cfFU) v1 o0 o1 r h hP hD hS hl)
  rcases h9 with h9 | h9
  · exact absurd h9.1 h0c
  · exact h9.2
set_option maxHeartbeats 4000000 in
set_option maxRecDepth 100000 in
theorem bF_end_15 {p : Program} {l : Launch} {e : Env} {s : State} {m : MethodId} {below : List Frame} {meth : Method} {c : Code} {A : Nat → Prop} {D : va_G} {K : Nat → ClassId} {h0 : Nat} {AR : Array Value} (C : ((dc_C p s m AR meth c cF_end 2 (Option.none : Option Jvm.ClassFile.FieldType) yF_end ∧ cf_E D K A s s.heap ∧ ∀ q, s.heap.size ≤ q → A q) ∧ (∀ x ∈ c.exceptionTable.toList, False) ∧ l.stackTraces = false)) (o0 : cf_O) (o1 : cf_O) (r : cf_O × cf_O) (h : fF_end_15 o0 o1 = some r) {h1 z1 z2 z3 z4 z5 z6 z7 z8 z9 z10 z11 z12 z13 z14 : Nat} {a1 : Nat → Nat} {H : Heap} {locs : List Loc} {ls : Array Slot} (hP : va_P D vwCl (wF K h0 (fF [h1, z1, z2, z3, z4, z5, z6, z7, z8, z9, z10, z11, z12, z13, z14]) o0 ++ wTx K h1 a1 o1) H) (hD : va_D A (wF K h0 (fF [h1, z1, z2, z3, z4, z5, z6, z7, z8, z9, z10, z11, z12, z13, z14]) o0 ++ wTx K h1 a1 o1)) (hS : va_S A s.heap H locs) (hl : lv_has ls 2 []) : W p l e ({ frames := 6, cells := (0 + xc (r.1.1 30)), slots := (0 + 6 * xc (r.1.1 30)), locals := 120 }) s m AR below meth c H locs 0 0 (xq below (r.1.1 30) (va_Qv (fun (_ : uF) => True) (fun (u : uF) t => cf_At D A (wF K h0 (fF [h1, z1, z2, z3, z4, z5, z6, z7, z8, z9, z10, z11, z12, z13, z14]) r.1 ++ wTx K h1 a1 r.2) t) A) D (fun (u : uF) => wF K h0 (fF [h1, z1, z2, z3, z4, z5, z6, z7, z8, z9, z10, z11, z12, z13, z14]) r.1 ++ wTx K h1 a1 r.2) A AR s (0 + xc (r.1.1 30)) (0 + 6 * xc (r.1.1 30))) (F0 m 15 ls []) := by
  have hEx := C.2.1
  have hl9 := C.2.2
  obtain ⟨⟨hx, hb, hr, hts, hown, hlocks, hin, hml⟩, hE, hA⟩ := id C.1
  have hK := hE.k
  obtain rfl := Option.some.inj h
  exact xt_throwF (K := K) (E := "java/lang/IllegalArgumentException") (own := "CellForge") (names := ["java/lang/RuntimeException", "java/lang/Exception"]) (ik := 106) (ic := 108) ((fF [h1, z1, z2, z3, z4, z5, z6, z7, z8, z9, z10, z11, z12, z13, z14]), (vF [(fun _ => 0), a1])) (show (1 : Int32) ≠ 0 by decide) (show xE 1 = "java/lang/IllegalArgumentException" from rfl) hx hb hl9 hown (by decide +kernel) (by decide +kernel) wv_865 wv_177 hts (fun s9 hts9 hE9 => xt_atoms hts9 hE9 (by decide +kernel)) hE (hP.sub [0, 1, 2, 3, 4] rfl) (hD.sub [0, 1, 2, 3, 4] (by decide +kernel) rfl) hS hA (hl.1.trans hml.symm) dF_end_15 dF_end_18 dF_end_19 dF_end_22 hEx hlocks (Nat.le_of_ble_eq_true rfl) (Nat.le_of_ble_eq_true rfl) (xc_c (show (1 : Int32) ≠ 0 by decide)) (xc_s (show (1 : Int32) ≠ 0 by decide)) (xc_c (show (1 : Int32) ≠ 0 by decide)) (xc_s (show (1 : Int32) ≠ 0 by decide))
set_option maxHeartbeats 4000000 in
set_option maxRecDepth 100000 in
theorem bF_end_0 {p : Program} {l : Launch} {e : Env} {s : State} {m : MethodId} {below : List Frame} {meth : Method} {c : Code} {A : Nat → Prop} {D : va_G} {K : Nat → ClassId} {h0 : Nat} {AR : Array Value} (C : ((dc_C p s m AR meth c cF_end 2 (Option.none : Option Jvm.ClassFile.FieldType) yF_end ∧ cf_E D K A s s.heap ∧ ∀ q, s.heap.size ≤ q → A q) ∧ (∀ x ∈ c.exceptionTable.toList, False) ∧ l.stackTraces = false)) (v1 : Int32) (o0 : cf_O) (o1 : cf_O) (r : cf_O × cf_O) (h : fF_end_0 v1 o0 o1 = some r) {h1 z1 z2 z3 z4 z5 z6 z7 z8 z9 z10 z11 z12 z13 z14 : Nat} {a1 : Nat → Nat} {H : Heap} {locs : List Loc} {ls : Array Slot} (hP : va_P D vwCl (wF K h0 (fF [h1, z1, z2, z3, z4, z5, z6, z7, z8, z9, z10, z11, z12, z13, z14]) o0 ++ wTx K h1 a1 o1) H) (hD : va_D A (wF K h0 (fF [h1, z1, z2, z3, z4, z5, z6, z7, z8, z9, z10, z11, z12, z13, z14]) o0 ++ wTx K h1 a1 o1)) (hS : va_S A s.heap H locs) (hl : lv_has ls 2 [(0, .ref h0), (1, .int v1)]) : W p l e ({ frames := 6, cells := (0 + xc (r.1.1 30)), slots := (0 + 6 * xc (r.1.1 30)), locals := 120 }) s m AR below meth c H locs 0 0 (xq below (r.1.1 30) (va_Qv (fun (_ : uF) => True) (fun (u : uF) t => cf_At D A (wF K h0 (fF [h1, z1, z2, z3, z4, z5, z6, z7, z8, z9, z10, z11, z12, z13, z14]) r.1 ++ wTx K h1 a1 r.2) t) A) D (fun (u : uF) => wF K h0 (fF [h1, z1, z2, z3, z4, z5, z6, z7, z8, z9, z10, z11, z12, z13, z14]) r.1 ++ wTx K h1 a1 r.2) A AR s (0 + xc (r.1.1 30)) (0 + 6 * xc (r.1.1 30))) (F0 m 0 ls []) := by
  have hEx := C.2.1
  have hl9 := C.2.2
  obtain ⟨⟨hx, hb, hr, hts, hown, hlocks, hin, hml⟩, hE, hA⟩ := id C.1
  have hK := hE.k
  refine lv_iload_n hx hb dF_end_0 rfl (lv_at hl 1 rfl) ?_
  refine lv_if_lt (tgt := 15) hx hb dF_end_1 (by decide) (fun c_1 => ?_) (fun c_1 => ?_)
  · have h := op_t c_1 h
    exact bF_end_15 C _ _ _ h hP hD hS (lv_sub hl [] rfl)
  · have h := op_f c_1 h
    refine lv_iload_n hx hb dF_end_4 rfl (lv_at hl 1 rfl) ?_
    refine lv_aload_n hx hb dF_end_5 rfl (lv_at hl 0 rfl) ?_
    refine va_get (D := D) (ci := 0) (v := .ref h1) (C := RF) (T := TF) (N := 19) hx hb hts inF hown hK hP 0 rfl rfl 0 (by decide) (hts _ wv_661) (fun _ h9 => h9) rfl dF_end_6 ?_
    refine va_get (D := D) (ci := 1) (v := .int (o1.1 3)) (C := RTx) (T := TTx) (N := 7) hx hb hts inTx hown hK hP 1 rfl rfl 3 (by decide) (hts _ wv_208) (fun _ h9 => h9) rfl dF_end_9 ?_
    refine lv_icmp_le (tgt := 23) hx hb dF_end_12 (by decide) (fun c_2 => ?_) (fun c_2 => ?_)
    · have h := op_t c_2 h
      refine lv_aload_n hx hb dF_end_23 rfl (lv_at hl 0 rfl) ?_
      refine va_get (D := D) (ci := 0) (v := .ref h1) (C := RF) (T := TF) (N := 19) hx hb hts inF hown hK hP 0 rfl rfl 0 (by decide) (hts _ wv_661) (fun _ h9 => h9) rfl dF_end_24 ?_
      refine lv_iload_n hx hb dF_end_27 rfl (lv_at hl 1 rfl) ?_
      refine va_put (D := D) (ci := 1) (v := .int v1) (ty := .int) (C := RTx) (T := TTx) (N := 7) hx hb hts inTx tyTx tyokTx nmTx hown hK hP hD hS 1 rfl rfl 3 (by decide) (hts _ wv_208) (fun _ h9 => h9) rfl (by decide +kernel) rfl rfl (Nat.le_of_ble_eq_true rfl) dF_end_28 (fun H locs hP hD hS => ?_)
      have hP : va_P D vwCl (wF K h0 (fF [h1, z1, z2, z3, z4, z5, z6, z7, z8, z9, z10, z11, z12, z13, z14]) o0 ++ wTx K h1 a1 (fp o1 3 v1)) H := hP
      have hD : va_D A (wF K h0 (fF [h1, z1, z2, z3, z4, z5, z6, z7, z8, z9, z10, z11, z12, z13, z14]) o0 ++ wTx K h1 a1 (fp o1 3 v1)) := hD
      obtain ⟨o_3, eo_3, h⟩ := op_kx h
      rw [← eo_3] at hP hD
      obtain rfl := Option.some.inj h
      exact dc_vretF ((fF [h1, z1, z2, z3, z4, z5, z6, z7, z8, z9, z10, z11, z12, z13, z14]), (vF [(fun _ => 0), a1])) rfl hx hb hr hlocks (hP.sub [0, 1, 2, 3, 4] rfl) (hD.sub [0, 1, 2, 3, 4] (by decide +kernel) rfl) hS (Nat.zero_le _) (Nat.zero_le _) dF_end_31
    · have h := op_f c_2 h
      exact bF_end_15 C _ _ _ h hP hD hS (lv_sub hl [] rfl)
set_option maxRecDepth 100000 in
theorem mF_end (l : Launch) (hl9 : l.stackTraces = false) (D : va_G) (K : Nat → ClassId) (sz : Nat) (v1 : Int32) (h0 : Nat) (h1 : Nat) (a1 : Nat → Nat) (z1 : Nat) (z2 : Nat) (z3 : Nat) (z4 : Nat) (z5 : Nat) (z6 : Nat) (z7 : Nat) (z8 : Nat) (z9 : Nat) (z10 : Nat) (z11 : Nat) (z12 : Nat) (z13 : Nat) (z14 : Nat) (o0 : cf_O) (o1 : cf_O) (r : cf_O × cf_O) (h : fF_end v1 o0 o1 = some r) (h0c : (r.1.1 30) = 0) : Met l yF_end (Cond.code yF_end cF_end 2 (Option.none : Option Jvm.ClassFile.FieldType) :: cfB) ({ frames := 6, cells := (0 + xc (r.1.1 30)), slots := (0 + 6 * xc (r.1.1 30)), locals := 120 }) (va_Pc [.ref h0, .int v1] (cf_Pre D K sz (wF K h0 (fF [h1, z1, z2, z3, z4, z5, z6, z7, z8, z9, z10, z11, z12, z13, z14]) o0 ++ wTx K h1 a1 o1))) (va_Qv (fun (_ : uF) => True) (fun (u : uF) t => cf_At D (va_A (wF K h0 (fF [h1, z1, z2, z3, z4, z5, z6, z7, z8, z9, z10, z11, z12, z13, z14]) o0 ++ wTx K h1 a1 o1) sz) (wF K h0 (fF [h1, z1, z2, z3, z4, z5, z6, z7, z8, z9, z10, z11, z12, z13, z14]) r.1 ++ wTx K h1 a1 r.2) t) (va_A (wF K h0 (fF [h1, z1, z2, z3, z4, z5, z6, z7, z8, z9, z10, z11, z12, z13, z14]) o0 ++ wTx K h1 a1 o1) sz)) (0 + xc (r.1.1 30)) (0 + 6 * xc (r.1.1 30)) (va_A (wF K h0 (fF [h1, z1, z2, z3, z4, z5, z6, z7, z8, z9, z10, z11, z12, z13, z14]) o0 ++ wTx K h1 a1 o1) sz) := by
  refine cf_ofWF (y := yF_end) (As := [.ref h0, .int v1]) (WS := wF K h0 (fF [h1, z1, z2, z3, z4, z5, z6, z7, z8, z9, z10, z11, z12, z13, z14]) o0 ++ wTx K h1 a1 o1) (maxL := 2) (fun A => (va_Qv (fun (_ : uF) => True) (fun (u : uF) t => cf_At D A (wF K h0 (fF [h1, z1, z2, z3, z4, z5, z6, z7, z8, z9, z10, z11, z12, z13, z14]) r.1 ++ wTx K h1 a1 r.2) t) A)) (by decide) (Nat.le_of_ble_eq_true rfl) ?_
  intro p e s m below meth c A ls En hEx hNS hsz hA hP hD hE hS hl
  have C : ((dc_C p s m (([.ref h0, .int v1] : List Value).toArray) meth c cF_end 2 (Option.none : Option Jvm.ClassFile.FieldType) yF_end ∧ cf_E D K A s s.heap ∧ ∀ q, s.heap.size ≤ q → A q) ∧ (∀ x ∈ c.exceptionTable.toList, False) ∧ l.stackTraces = false) := ⟨⟨En, hE, hA⟩, hEx, hl9⟩
  refine W_to (fun t9 h9 => ?_) (bF_end_0 C v1 o0 o1 r h hP hD hS hl)
  rcases h9 with h9 | h9
  · exact h9.2
  · exact absurd h0c h9.1
set_option maxRecDepth 100000 in
theorem zxF_end (l : Launch) (hl9 : l.stackTraces = false) (D : va_G) (K : Nat → ClassId) (sz : Nat) (v1 : Int32) (h0 : Nat) (h1 : Nat) (a1 : Nat → Nat) (z1 : Nat) (z2 : Nat) (z3 : Nat) (z4 : Nat) (z5 : Nat) (z6 : Nat) (z7 : Nat) (z8 : Nat) (z9 : Nat) (z10 : Nat) (z11 : Nat) (z12 : Nat) (z13 : Nat) (z14 : Nat) (o0 : cf_O) (o1 : cf_O) (r : cf_O × cf_O) (h : fF_end v1 o0 o1 = some r) (h0c : ¬ (r.1.1 30) = 0) : xt_MetG l yF_end (Cond.code yF_end cF_end 2 (Option.none : Option Jvm.ClassFile.FieldType) :: cfB) ({ frames := 6, cells := (0 + xc (r.1.1 30)), slots := (0 + 6 * xc (r.1.1 30)), locals := 120 }) (va_Pc [.ref h0, .int v1] (cf_Pre D K sz (wF K h0 (fF [h1, z1, z2, z3, z4, z5, z6, z7, z8, z9, z10, z11, z12, z13, z14]) o0 ++ wTx K h1 a1 o1))) (xE (r.1.1 30)) D (fun (u : uF) => wF K h0 (fF [h1, z1, z2, z3, z4, z5, z6, z7, z8, z9, z10, z11, z12, z13, z14]) r.1 ++ wTx K h1 a1 r.2) (va_A (wF K h0 (fF [h1, z1, z2, z3, z4, z5, z6, z7, z8, z9, z10, z11, z12, z13, z14]) o0 ++ wTx K h1 a1 o1) sz) (0 + xc (r.1.1 30)) (0 + 6 * xc (r.1.1 30)) := by
  refine xt_ofWG (y := yF_end) (As := [.ref h0, .int v1]) (WS := wF K h0 (fF [h1, z1, z2, z3, z4, z5, z6, z7, z8, z9, z10, z11, z12, z13, z14]) o0 ++ wTx K h1 a1 o1) (maxL := 2) (by decide) (Nat.le_of_ble_eq_true rfl) ?_
  intro p e s m below meth c A ls En hEx hNS hsz hA hP hD hE hS hl
  have C : ((dc_C p s m (([.ref h0, .int v1] : List Value).toArray) meth c cF_end 2 (Option.none : Option Jvm.ClassFile.FieldType) yF_end ∧ cf_E D K A s s.heap ∧ ∀ q, s.heap.size ≤ q → A q) ∧ (∀ x ∈ c.exceptionTable.toList, False) ∧ l.stackTraces = false) := ⟨⟨En, hE, hA⟩, hEx, hl9⟩
  refine W_to (fun t9 h9 => ?_) (bF_end_0 C v1 o0 o1 r h hP hD hS hl)
  rcases h9 with h9 | h9
  · exact absurd h9.1 h0c
  · exact h9.2
set_option maxRecDepth 100000 in
theorem nF_takeSpareNodes_0 (o0 : cf_O) (o1 : cf_O) (o2 : cf_O) (r : cf_O × cf_O × cf_O) (h : fF_takeSpareNodes_0 o0 o1 o2 = some r) : phCu o2 ≤ phCu r.2.2 := by
  have hm : phCu o2 ≤ phCu o2 := Nat.le_refl _
  obtain ⟨o_1, eo_1, h⟩ := op_kx h
  obtain ⟨o_2, eo_2, h⟩ := op_kx h
  have hm : phCu o2 ≤ phCu o_2 := by rw [eo_2]; exact hm
  obtain ⟨o_3, eo_3, h⟩ := op_kx h
  obtain ⟨o_4, eo_4, h⟩ := op_kx h
  obtain rfl := Option.some.inj h
  exact hm
theorem nF_takeSpareNodes (o0 : cf_O) (o1 : cf_O) (o2 : cf_O) (r : cf_O × cf_O × cf_O) (h : fF_takeSpareNodes o0 o1 o2 = some r) : phCu o2 ≤ phCu r.2.2 := nF_takeSpareNodes_0  o0 o1 o2 r h
set_option maxHeartbeats 4000000 in
set_option maxRecDepth 100000 in
theorem bF_takeSpareNodes_0 {p : Program} {l : Launch} {e : Env} {s : State} {m : MethodId} {below : List Frame} {meth : Method} {c : Code} {A : Nat → Prop} {D : va_G} {K : Nat → ClassId} {h0 : Nat} {AR : Array Value} (C : ((dc_C p s m AR meth c cF_takeSpareNodes 2 (Option.none : Option Jvm.ClassFile.FieldType) yF_takeSpareNodes ∧ cf_E D K A s s.heap ∧ ∀ q, s.heap.size ≤ q → A q) ∧ (∀ x ∈ c.exceptionTable.toList, False) ∧ l.stackTraces = false)) (o0 : cf_O) (o1 : cf_O) (o2 : cf_O) (r : cf_O × cf_O × cf_O) (h : fF_takeSpareNodes_0 o0 o1 o2 = some r) {h1 h2 z0 z3 z4 z5 z6 z7 z8 z9 z10 z11 z12 z13 z14 : Nat} {a1 a2 : Nat → Nat} {H : Heap} {locs : List Loc} {ls : Array Slot} (hP : va_P D vwCl (wF K h0 (fF [z0, h1, h2, z3, z4, z5, z6, z7, z8, z9, z10, z11, z12, z13, z14]) o0 ++ wFu K h1 a1 o1 ++ wCu K h2 a2 o2) H) (hD : va_D A (wF K h0 (fF [z0, h1, h2, z3, z4, z5, z6, z7, z8, z9, z10, z11, z12, z13, z14]) o0 ++ wFu K h1 a1 o1 ++ wCu K h2 a2 o2)) (hS : va_S A s.heap H locs) (hl : lv_has ls 2 [(0, .ref h0)]) : W p l e ({ frames := 0, cells := (0 + xc (r.1.1 30)), slots := (0 + 6 * xc (r.1.1 30)), locals := 0 }) s m AR below meth c H locs 0 0 (xq below (r.1.1 30) (va_Qv (fun (_ : uF) => True) (fun (u : uF) t => cf_At D A (wF K h0 (fF [z0, h1, h2, z3, z4, z5, z6, z7, z8, z9, z10, z12, z11, z13, z14]) r.1 ++ wFu K h1 a1 r.2.1 ++ wCu K h2 a2 r.2.2) t) A) D (fun (u : uF) => wF K h0 (fF [z0, h1, h2, z3, z4, z5, z6, z7, z8, z9, z10, z12, z11, z13, z14]) r.1 ++ wFu K h1 a1 r.2.1 ++ wCu K h2 a2 r.2.2) A AR s (0 + xc (r.1.1 30)) (0 + 6 * xc (r.1.1 30))) (F0 m 0 ls []) := by
  have hEx := C.2.1
  have hl9 := C.2.2
  obtain ⟨⟨hx, hb, hr, hts, hown, hlocks, hin, hml⟩, hE, hA⟩ := id C.1
  have hK := hE.k
  refine lv_aload_n hx hb dF_takeSpareNodes_0 rfl (lv_at hl 0 rfl) ?_
  refine va_get (D := D) (ci := 0) (v := .ref z11) (C := RF) (T := TF) (N := 19) hx hb hts inF hown hK hP 0 rfl rfl 11 (by decide) (hts _ wv_672) (fun _ h9 => h9) rfl dF_takeSpareNodes_1 ?_
  refine lv_astore_n (lv' := [(1, .ref z11), (0, .ref h0)]) hx hb dF_takeSpareNodes_4 rfl hl (by decide) rfl (fun ls hl => ?_)
  refine lv_aload_n hx hb dF_takeSpareNodes_5 rfl (lv_at hl 1 rfl) ?_
  refine lv_aload_n hx hb dF_takeSpareNodes_6 rfl (lv_at hl 1 rfl) ?_
  refine va_get (D := D) (ci := 0) (v := .ref z12) (C := RF) (T := TF) (N := 19) hx hb hts inF hown hK hP 0 rfl rfl 12 (by decide) (hts _ wv_673) (fun _ h9 => h9) rfl dF_takeSpareNodes_7 ?_
  refine va_put (D := D) (ci := 0) (v := .ref z12) (ty := (.object "CellForge$Graph")) (C := RF) (T := TF) (N := 19) hx hb hts inF tyF tyokF nmF hown hK hP hD hS 0 rfl rfl 11 (by decide) (hts _ wv_672) (fun _ h9 => h9) rfl (by decide +kernel) rfl rfl (Nat.le_of_ble_eq_true rfl) dF_takeSpareNodes_10 (fun H locs hP hD hS => ?_)
  have hP : va_P D vwCl (wF K h0 (fF [z0, h1, h2, z3, z4, z5, z6, z7, z8, z9, z10, z12, z12, z13, z14]) o0 ++ wFu K h1 a1 o1 ++ wCu K h2 a2 o2) H := hP
  have hD : va_D A (wF K h0 (fF [z0, h1, h2, z3, z4, z5, z6, z7, z8, z9, z10, z12, z12, z13, z14]) o0 ++ wFu K h1 a1 o1 ++ wCu K h2 a2 o2) := hD
  refine lv_aload_n hx hb dF_takeSpareNodes_13 rfl (lv_at hl 1 rfl) ?_
  refine lv_aload_n hx hb dF_takeSpareNodes_14 rfl (lv_at hl 0 rfl) ?_
  refine va_put (D := D) (ci := 0) (v := .ref z11) (ty := (.object "CellForge$Graph")) (C := RF) (T := TF) (N := 19) hx hb hts inF tyF tyokF nmF hown hK hP hD hS 0 rfl rfl 12 (by decide) (hts _ wv_673) (fun _ h9 => h9) rfl (by decide +kernel) rfl rfl (Nat.le_of_ble_eq_true rfl) dF_takeSpareNodes_15 (fun H locs hP hD hS => ?_)
  have hP : va_P D vwCl (wF K h0 (fF [z0, h1, h2, z3, z4, z5, z6, z7, z8, z9, z10, z12, z11, z13, z14]) o0 ++ wFu K h1 a1 o1 ++ wCu K h2 a2 o2) H := hP
  have hD : va_D A (wF K h0 (fF [z0, h1, h2, z3, z4, z5, z6, z7, z8, z9, z10, z12, z11, z13, z14]) o0 ++ wFu K h1 a1 o1 ++ wCu K h2 a2 o2) := hD
  refine lv_aload_n hx hb dF_takeSpareNodes_18 rfl (lv_at hl 1 rfl) ?_
  refine va_get (D := D) (ci := 0) (v := .ref h1) (C := RF) (T := TF) (N := 19) hx hb hts inF hown hK hP 0 rfl rfl 1 (by decide) (hts _ wv_662) (fun _ h9 => h9) rfl dF_takeSpareNodes_19 ?_
  refine lv_iconst (v := 0) hx hb dF_takeSpareNodes_22 (by decide) ?_
  refine va_put (D := D) (ci := 4) (v := .int 0) (ty := .boolean) (C := RFu) (T := TFu) (N := 5) hx hb hts inFu tyFu tyokFu nmFu hown hK hP hD hS 1 rfl rfl 0 (by decide) (hts _ wv_241) (fun _ h9 => h9) rfl (by decide +kernel) rfl rfl (Nat.le_of_ble_eq_true rfl) dF_takeSpareNodes_23 (fun H locs hP hD hS => ?_)
  have hP : va_P D vwCl (wF K h0 (fF [z0, h1, h2, z3, z4, z5, z6, z7, z8, z9, z10, z12, z11, z13, z14]) o0 ++ wFu K h1 a1 (fp o1 0 0) ++ wCu K h2 a2 o2) H := hP
  have hD : va_D A (wF K h0 (fF [z0, h1, h2, z3, z4, z5, z6, z7, z8, z9, z10, z12, z11, z13, z14]) o0 ++ wFu K h1 a1 (fp o1 0 0) ++ wCu K h2 a2 o2) := hD
  obtain ⟨o_1, eo_1, h⟩ := op_kx h
  rw [← eo_1] at hP hD
  refine lv_aload_n hx hb dF_takeSpareNodes_26 rfl (lv_at hl 1 rfl) ?_
  refine va_get (D := D) (ci := 0) (v := .ref h2) (C := RF) (T := TF) (N := 19) hx hb hts inF hown hK hP 0 rfl rfl 2 (by decide) (hts _ wv_663) (fun _ h9 => h9) rfl dF_takeSpareNodes_27 ?_
  refine lv_iconst (v := 0) hx hb dF_takeSpareNodes_30 (by decide) ?_
  refine va_put (D := D) (ci := 5) (v := .int 0) (ty := .int) (C := RCu) (T := TCu) (N := 6) hx hb hts inCu tyCu tyokCu nmCu hown hK hP hD hS 6 rfl rfl 0 (by decide) (hts _ wv_265) (fun _ h9 => h9) rfl (by decide +kernel) rfl rfl (Nat.le_of_ble_eq_true rfl) dF_takeSpareNodes_31 (fun H locs hP hD hS => ?_)
  have hP : va_P D vwCl (wF K h0 (fF [z0, h1, h2, z3, z4, z5, z6, z7, z8, z9, z10, z12, z11, z13, z14]) o0 ++ wFu K h1 a1 o_1 ++ wCu K h2 a2 (fp o2 0 0)) H := hP
  have hD : va_D A (wF K h0 (fF [z0, h1, h2, z3, z4, z5, z6, z7, z8, z9, z10, z12, z11, z13, z14]) o0 ++ wFu K h1 a1 o_1 ++ wCu K h2 a2 (fp o2 0 0)) := hD
  obtain ⟨o_2, eo_2, h⟩ := op_kx h
  rw [← eo_2] at hP hD
  refine lv_aload_n hx hb dF_takeSpareNodes_34 rfl (lv_at hl 1 rfl) ?_
  refine lv_iconst (v := 0) hx hb dF_takeSpareNodes_35 (by decide) ?_
  refine va_put (D := D) (ci := 0) (v := .int 0) (ty := .boolean) (C := RF) (T := TF) (N := 19) hx hb hts inF tyF tyokF nmF hown hK hP hD hS 0 rfl rfl 17 (by decide) (hts _ wv_678) (fun _ h9 => h9) rfl (by decide +kernel) rfl rfl (Nat.le_of_ble_eq_true rfl) dF_takeSpareNodes_36 (fun H locs hP hD hS => ?_)
  have hP : va_P D vwCl (wF K h0 (fF [z0, h1, h2, z3, z4, z5, z6, z7, z8, z9, z10, z12, z11, z13, z14]) (fp o0 17 0) ++ wFu K h1 a1 o_1 ++ wCu K h2 a2 o_2) H := hP
  have hD : va_D A (wF K h0 (fF [z0, h1, h2, z3, z4, z5, z6, z7, z8, z9, z10, z12, z11, z13, z14]) (fp o0 17 0) ++ wFu K h1 a1 o_1 ++ wCu K h2 a2 o_2) := hD
  obtain ⟨o_3, eo_3, h⟩ := op_kx h
  rw [← eo_3] at hP hD
  refine lv_aload_n hx hb dF_takeSpareNodes_39 rfl (lv_at hl 1 rfl) ?_
  refine lv_iconst (v := 0) hx hb dF_takeSpareNodes_40 (by decide) ?_
  refine va_put (D := D) (ci := 0) (v := .int 0) (ty := .boolean) (C := RF) (T := TF) (N := 19) hx hb hts inF tyF tyokF nmF hown hK hP hD hS 0 rfl rfl 18 (by decide) (hts _ wv_679) (fun _ h9 => h9) rfl (by decide +kernel) rfl rfl (Nat.le_of_ble_eq_true rfl) dF_takeSpareNodes_41 (fun H locs hP hD hS => ?_)
  have hP : va_P D vwCl (wF K h0 (fF [z0, h1, h2, z3, z4, z5, z6, z7, z8, z9, z10, z12, z11, z13, z14]) (fp o_3 18 0) ++ wFu K h1 a1 o_1 ++ wCu K h2 a2 o_2) H := hP
  have hD : va_D A (wF K h0 (fF [z0, h1, h2, z3, z4, z5, z6, z7, z8, z9, z10, z12, z11, z13, z14]) (fp o_3 18 0) ++ wFu K h1 a1 o_1 ++ wCu K h2 a2 o_2) := hD
  obtain ⟨o_4, eo_4, h⟩ := op_kx h
  rw [← eo_4] at hP hD
  obtain rfl := Option.some.inj h
  exact dc_vretF ((fF [z0, h1, h2, z3, z4, z5, z6, z7, z8, z9, z10, z12, z11, z13, z14]), (vF [(fun _ => 0), a1, a2])) rfl hx hb hr hlocks (hP.sub [0, 1, 2, 3, 4, 5, 6, 7, 8, 9, 10] rfl) (hD.sub [0, 1, 2, 3, 4, 5, 6, 7, 8, 9, 10] (by decide +kernel) rfl) hS (Nat.zero_le _) (Nat.zero_le _) dF_takeSpareNodes_44
set_option maxRecDepth 100000 in
theorem mF_takeSpareNodes (l : Launch) (hl9 : l.stackTraces = false) (D : va_G) (K : Nat → ClassId) (sz : Nat) (h0 : Nat) (h1 : Nat) (a1 : Nat → Nat) (h2 : Nat) (a2 : Nat → Nat) (z0 : Nat) (z3 : Nat) (z4 : Nat) (z5 : Nat) (z6 : Nat) (z7 : Nat) (z8 : Nat) (z9 : Nat) (z10 : Nat) (z11 : Nat) (z12 : Nat) (z13 : Nat) (z14 : Nat) (o0 : cf_O) (o1 : cf_O) (o2 : cf_O) (r : cf_O × cf_O × cf_O) (h : fF_takeSpareNodes o0 o1 o2 = some r) (h0c : (r.1.1 30) = 0) : Met l yF_takeSpareNodes (Cond.code yF_takeSpareNodes cF_takeSpareNodes 2 (Option.none : Option Jvm.ClassFile.FieldType) :: cfB) ({ frames := 0, cells := (0 + xc (r.1.1 30)), slots := (0 + 6 * xc (r.1.1 30)), locals := 0 }) (va_Pc [.ref h0] (cf_Pre D K sz (wF K h0 (fF [z0, h1, h2, z3, z4, z5, z6, z7, z8, z9, z10, z11, z12, z13, z14]) o0 ++ wFu K h1 a1 o1 ++ wCu K h2 a2 o2))) (va_Qv (fun (_ : uF) => True) (fun (u : uF) t => cf_At D (va_A (wF K h0 (fF [z0, h1, h2, z3, z4, z5, z6, z7, z8, z9, z10, z11, z12, z13, z14]) o0 ++ wFu K h1 a1 o1 ++ wCu K h2 a2 o2) sz) (wF K h0 (fF [z0, h1, h2, z3, z4, z5, z6, z7, z8, z9, z10, z12, z11, z13, z14]) r.1 ++ wFu K h1 a1 r.2.1 ++ wCu K h2 a2 r.2.2) t) (va_A (wF K h0 (fF [z0, h1, h2, z3, z4, z5, z6, z7, z8, z9, z10, z11, z12, z13, z14]) o0 ++ wFu K h1 a1 o1 ++ wCu K h2 a2 o2) sz)) (0 + xc (r.1.1 30)) (0 + 6 * xc (r.1.1 30)) (va_A (wF K h0 (fF [z0, h1, h2, z3, z4, z5, z6, z7, z8, z9, z10, z11, z12, z13, z14]) o0 ++ wFu K h1 a1 o1 ++ wCu K h2 a2 o2) sz) := by
  refine cf_ofWF (y := yF_takeSpareNodes) (As := [.ref h0]) (WS := wF K h0 (fF [z0, h1, h2, z3, z4, z5, z6, z7, z8, z9, z10, z11, z12, z13, z14]) o0 ++ wFu K h1 a1 o1 ++ wCu K h2 a2 o2) (maxL := 2) (fun A => (va_Qv (fun (_ : uF) => True) (fun (u : uF) t => cf_At D A (wF K h0 (fF [z0, h1, h2, z3, z4, z5, z6, z7, z8, z9, z10, z12, z11, z13, z14]) r.1 ++ wFu K h1 a1 r.2.1 ++ wCu K h2 a2 r.2.2) t) A)) (by decide) (Nat.le_of_ble_eq_true rfl) ?_
  intro p e s m below meth c A ls En hEx hNS hsz hA hP hD hE hS hl
  have C : ((dc_C p s m (([.ref h0] : List Value).toArray) meth c cF_takeSpareNodes 2 (Option.none : Option Jvm.ClassFile.FieldType) yF_takeSpareNodes ∧ cf_E D K A s s.heap ∧ ∀ q, s.heap.size ≤ q → A q) ∧ (∀ x ∈ c.exceptionTable.toList, False) ∧ l.stackTraces = false) := ⟨⟨En, hE, hA⟩, hEx, hl9⟩
  refine W_to (fun t9 h9 => ?_) (bF_takeSpareNodes_0 C o0 o1 o2 r h hP hD hS hl)
  rcases h9 with h9 | h9
  · exact h9.2
  · exact absurd h0c h9.1
set_option maxRecDepth 100000 in
theorem zxF_takeSpareNodes (l : Launch) (hl9 : l.stackTraces = false) (D : va_G) (K : Nat → ClassId) (sz : Nat) (h0 : Nat) (h1 : Nat) (a1 : Nat → Nat) (h2 : Nat) (a2 : Nat → Nat) (z0 : Nat) (z3 : Nat) (z4 : Nat) (z5 : Nat) (z6 : Nat) (z7 : Nat) (z8 : Nat) (z9 : Nat) (z10 : Nat) (z11 : Nat) (z12 : Nat) (z13 : Nat) (z14 : Nat) (o0 : cf_O) (o1 : cf_O) (o2 : cf_O) (r : cf_O × cf_O × cf_O) (h : fF_takeSpareNodes o0 o1 o2 = some r) (h0c : ¬ (r.1.1 30) = 0) : xt_MetG l yF_takeSpareNodes (Cond.code yF_takeSpareNodes cF_takeSpareNodes 2 (Option.none : Option Jvm.ClassFile.FieldType) :: cfB) ({ frames := 0, cells := (0 + xc (r.1.1 30)), slots := (0 + 6 * xc (r.1.1 30)), locals := 0 }) (va_Pc [.ref h0] (cf_Pre D K sz (wF K h0 (fF [z0, h1, h2, z3, z4, z5, z6, z7, z8, z9, z10, z11, z12, z13, z14]) o0 ++ wFu K h1 a1 o1 ++ wCu K h2 a2 o2))) (xE (r.1.1 30)) D (fun (u : uF) => wF K h0 (fF [z0, h1, h2, z3, z4, z5, z6, z7, z8, z9, z10, z12, z11, z13, z14]) r.1 ++ wFu K h1 a1 r.2.1 ++ wCu K h2 a2 r.2.2) (va_A (wF K h0 (fF [z0, h1, h2, z3, z4, z5, z6, z7, z8, z9, z10, z11, z12, z13, z14]) o0 ++ wFu K h1 a1 o1 ++ wCu K h2 a2 o2) sz) (0 + xc (r.1.1 30)) (0 + 6 * xc (r.1.1 30)) := by
  refine xt_ofWG (y := yF_takeSpareNodes) (As := [.ref h0]) (WS := wF K h0 (fF [z0, h1, h2, z3, z4, z5, z6, z7, z8, z9, z10, z11, z12, z13, z14]) o0 ++ wFu K h1 a1 o1 ++ wCu K h2 a2 o2) (maxL := 2) (by decide) (Nat.le_of_ble_eq_true rfl) ?_
  intro p e s m below meth c A ls En hEx hNS hsz hA hP hD hE hS hl
  have C : ((dc_C p s m (([.ref h0] : List Value).toArray) meth c cF_takeSpareNodes 2 (Option.none : Option Jvm.ClassFile.FieldType) yF_takeSpareNodes ∧ cf_E D K A s s.heap ∧ ∀ q, s.heap.size ≤ q → A q) ∧ (∀ x ∈ c.exceptionTable.toList, False) ∧ l.stackTraces = false) := ⟨⟨En, hE, hA⟩, hEx, hl9⟩
  refine W_to (fun t9 h9 => ?_) (bF_takeSpareNodes_0 C o0 o1 o2 r h hP hD hS hl)
  rcases h9 with h9 | h9
  · exact absurd h9.1 h0c
  · exact h9.2
set_option maxRecDepth 100000 in
theorem nF_read_80 (v1 : Int32) (v2 : Int32) (o0 : cf_O) (o1 : cf_O) (o2 : cf_O) (o3 : cf_O) (o4 : cf_O) (o5 : cf_O) (o6 : cf_O) (o7 : cf_O) (r : Int32 × cf_O × cf_O × cf_O × cf_O × cf_O × cf_O × cf_O × cf_O) (h : fF_read_80 v1 v2 o0 o1 o2 o3 o4 o5 o6 o7 = some r) : phCu o3 ≤ phCu r.2.2.2.2.1 := by
  have hm : phCu o3 ≤ phCu o3 := Nat.le_refl _
  obtain ⟨o_1, eo_1, h⟩ := op_kx h
  obtain rfl := Option.some.inj h
  exact hm
set_option maxRecDepth 100000 in
theorem nF_read_75 (v1 : Int32) (v2 : Int32) (o0 : cf_O) (o1 : cf_O) (o2 : cf_O) (o3 : cf_O) (o4 : cf_O) (o5 : cf_O) (o6 : cf_O) (o7 : cf_O) (r : Int32 × cf_O × cf_O × cf_O × cf_O × cf_O × cf_O × cf_O × cf_O) (h : fF_read_75 v1 v2 o0 o1 o2 o3 o4 o5 o6 o7 = some r) : phCu o3 ≤ phCu r.2.2.2.2.1 := by
  have hm : phCu o3 ≤ phCu o3 := Nat.le_refl _
  obtain ⟨o_1, eo_1, h⟩ := op_kx h
  exact Nat.le_trans hm (nF_read_80 _ _ _ _ _ _ _ _ _ _ _ h)
set_option maxRecDepth 100000 in
theorem nF_read_53 (v1 : Int32) (v2 : Int32) (o0 : cf_O) (o1 : cf_O) (o2 : cf_O) (o3 : cf_O) (o4 : cf_O) (o5 : cf_O) (o6 : cf_O) (o7 : cf_O) (r : Int32 × cf_O × cf_O × cf_O × cf_O × cf_O × cf_O × cf_O × cf_O) (h : fF_read_53 v1 v2 o0 o1 o2 o3 o4 o5 o6 o7 = some r) : phCu o3 ≤ phCu r.2.2.2.2.1 := by
  have hm : phCu o3 ≤ phCu o3 := Nat.le_refl _
  obtain ⟨q_1, hq_1, h⟩ := op_b h
  have hm : phCu o3 ≤ phCu q_1.2.2 := Nat.le_trans hm (nF_takeSpareNodes _ _ _ _ hq_1)
  rcases Classical.em ((q_1.1.1 30) = 0) with c_2 | c_2
  · have h := op_t c_2 h
    exact Nat.le_trans hm (nF_read_75 _ _ _ _ _ _ _ _ _ _ _ h)
  · have h := op_f c_2 h
    obtain rfl := Option.some.inj h
    exact hm
set_option maxRecDepth 100000 in
theorem nF_read_50 (v1 : Int32) (v2 : Int32) (s0 : Int32) (o0 : cf_O) (o1 : cf_O) (o2 : cf_O) (o3 : cf_O) (o4 : cf_O) (o5 : cf_O) (o6 : cf_O) (o7 : cf_O) (r : Int32 × cf_O × cf_O × cf_O × cf_O × cf_O × cf_O × cf_O × cf_O) (h : fF_read_50 v1 v2 s0 o0 o1 o2 o3 o4 o5 o6 o7 = some r) : phCu o3 ≤ phCu r.2.2.2.2.1 := by
  have hm : phCu o3 ≤ phCu o3 := Nat.le_refl _
  rcases Classical.em (s0 = 0) with c_1 | c_1
  · have h := op_t c_1 h
    obtain rfl := Option.some.inj h
    exact hm
  · have h := op_f c_1 h
    exact Nat.le_trans hm (nF_read_53 _ _ _ _ _ _ _ _ _ _ _ h)
set_option maxRecDepth 100000 in
theorem nF_read_35 (v1 : Int32) (v2 : Int32) (o0 : cf_O) (o1 : cf_O) (o2 : cf_O) (o3 : cf_O) (o4 : cf_O) (o5 : cf_O) (o6 : cf_O) (o7 : cf_O) (r : Int32 × cf_O × cf_O × cf_O × cf_O × cf_O × cf_O × cf_O × cf_O) (h : fF_read_35 v1 v2 o0 o1 o2 o3 o4 o5 o6 o7 = some r) : phCu o3 ≤ phCu r.2.2.2.2.1 := by
  have hm : phCu o3 ≤ phCu o3 := Nat.le_refl _
  rcases (Classical.em ((o7.1 3) = (0 : Int32))).symm with c_1 | c_1
  · have h := op_f c_1 h
    exact Nat.le_trans hm (nF_read_50 _ _ _ _ _ _ _ _ _ _ _ _ h)
  · have h := op_t c_1 h
    exact Nat.le_trans hm (nF_read_50 _ _ _ _ _ _ _ _ _ _ _ _ h)
set_option maxRecDepth 100000 in
theorem nF_read_11 (s0 : Int32) (o0 : cf_O) (o1 : cf_O) (o2 : cf_O) (o3 : cf_O) (o4 : cf_O) (o5 : cf_O) (o6 : cf_O) (o7 : cf_O) (r : Int32 × cf_O × cf_O × cf_O × cf_O × cf_O × cf_O × cf_O × cf_O) (h : fF_read_11 s0 o0 o1 o2 o3 o4 o5 o6 o7 = some r) : phCu o3 ≤ phCu r.2.2.2.2.1 := by
  have hm : phCu o3 ≤ phCu o3 := Nat.le_refl _
  rcases (Classical.em (s0 = (0 : Int32))).symm with c_1 | c_1
  · have h := op_f c_1 h
    exact Nat.le_trans hm (nF_read_80 _ _ _ _ _ _ _ _ _ _ _ h)
  · have h := op_t c_1 h
    obtain ⟨q_2, hq_2, h⟩ := op_b h
    exact Nat.le_trans hm (nF_read_35 _ _ _ _ _ _ _ _ _ _ _ h)
set_option maxRecDepth 100000 in
theorem nF_read_0 (o0 : cf_O) (o1 : cf_O) (o2 : cf_O) (o3 : cf_O) (o4 : cf_O) (o5 : cf_O) (o6 : cf_O) (o7 : cf_O) (r : Int32 × cf_O × cf_O × cf_O × cf_O × cf_O × cf_O × cf_O × cf_O) (h : fF_read_0 o0 o1 o2 o3 o4 o5 o6 o7 = some r) : phCu o3 ≤ phCu r.2.2.2.2.1 := by
  have hm : phCu o3 ≤ phCu o3 := Nat.le_refl _
  obtain ⟨q_1, hq_1, h⟩ := op_b h
  exact Nat.le_trans hm (nF_read_11 _ _ _ _ _ _ _ _ _ _ h)
theorem nF_read (o0 : cf_O) (o1 : cf_O) (o2 : cf_O) (o3 : cf_O) (o4 : cf_O) (o5 : cf_O) (o6 : cf_O) (o7 : cf_O) (r : Int32 × cf_O × cf_O × cf_O × cf_O × cf_O × cf_O × cf_O × cf_O) (h : fF_read o0 o1 o2 o3 o4 o5 o6 o7 = some r) : phCu o3 ≤ phCu r.2.2.2.2.1 := nF_read_0  o0 o1 o2 o3 o4 o5 o6 o7 r h
set_option maxHeartbeats 4000000 in
set_option maxRecDepth 100000 in
theorem bF_read_80 {p : Program} {l : Launch} {e : Env} {s : State} {m : MethodId} {below : List Frame} {meth : Method} {c : Code} {A : Nat → Prop} {D : va_G} {K : Nat → ClassId} {h0 : Nat} {AR : Array Value} (C : ((dc_C p s m AR meth c cF_read 4 (Option.some Jvm.ClassFile.FieldType.int) yF_read ∧ cf_E D K A s s.heap ∧ ∀ q, s.heap.size ≤ q → A q) ∧ (∀ x ∈ c.exceptionTable.toList, False) ∧ l.stackTraces = false)) (v1 : Int32) (v2 : Int32) (o0 : cf_O) (o1 : cf_O) (o2 : cf_O) (o3 : cf_O) (o4 : cf_O) (o5 : cf_O) (o6 : cf_O) (o7 : cf_O) (r : Int32 × cf_O × cf_O × cf_O × cf_O × cf_O × cf_O × cf_O × cf_O) (h : fF_read_80 v1 v2 o0 o1 o2 o3 o4 o5 o6 o7 = some r) {h1 h2 h3 h4 h5 h6 h7 z3 z4 z5 z6 z7 z8 z13 z14 : Nat} {a1 a2 a3 a4 a5 a6 a7 : Nat → Nat} {H : Heap} {locs : List Loc} {ls : Array Slot} (hP : va_P D vwCl (wF K h0 (fF [h1, h2, h3, z3, z4, z5, z6, z7, z8, h4, h5, h6, h7, z13, z14]) o0 ++ wTx K h1 a1 o1 ++ wFu K h2 a2 o2 ++ wCu K h3 a3 o3 ++ wNl K h4 a4 o4 ++ wNl K h5 a5 o5 ++ wGr K h6 a6 o6 ++ wGr K h7 a7 o7) H) (hD : va_D A (wF K h0 (fF [h1, h2, h3, z3, z4, z5, z6, z7, z8, h4, h5, h6, h7, z13, z14]) o0 ++ wTx K h1 a1 o1 ++ wFu K h2 a2 o2 ++ wCu K h3 a3 o3 ++ wNl K h4 a4 o4 ++ wNl K h5 a5 o5 ++ wGr K h6 a6 o6 ++ wGr K h7 a7 o7)) (hS : va_S A s.heap H locs) (hl : lv_has ls 4 [(0, .ref h0), (1, .int v1), (2, .int v2)]) : W p l e ({ frames := 38, cells := (0 + xc (r.2.1.1 30)), slots := (0 + 6 * xc (r.2.1.1 30)), locals := 956 }) s m AR below meth c H locs 0 0 (xq below (r.2.1.1 30) (va_Qi (fun (x : Int32) (_ : uF) => x = r.1) (fun (u : uF) t => cf_At D A (wF K h0 (fF [h1, h2, h3, z3, z4, z5, z6, z7, z8, (u.1 9), (u.1 10), (u.1 11), (u.1 12), z13, z14]) r.2.1 ++ wTx K h1 a1 r.2.2.1 ++ wFu K h2 a2 r.2.2.2.1 ++ wCu K h3 a3 r.2.2.2.2.1 ++ wNl K (u.1 9) (u.2 4) r.2.2.2.2.2.1 ++ wNl K (u.1 10) (u.2 5) r.2.2.2.2.2.2.1 ++ wGr K (u.1 11) (u.2 6) r.2.2.2.2.2.2.2.1 ++ wGr K (u.1 12) (u.2 7) r.2.2.2.2.2.2.2.2) t) A) D (fun (u : uF) => wF K h0 (fF [h1, h2, h3, z3, z4, z5, z6, z7, z8, (u.1 9), (u.1 10), (u.1 11), (u.1 12), z13, z14]) r.2.1 ++ wTx K h1 a1 r.2.2.1 ++ wFu K h2 a2 r.2.2.2.1 ++ wCu K h3 a3 r.2.2.2.2.1 ++ wNl K (u.1 9) (u.2 4) r.2.2.2.2.2.1 ++ wNl K (u.1 10) (u.2 5) r.2.2.2.2.2.2.1 ++ wGr K (u.1 11) (u.2 6) r.2.2.2.2.2.2.2.1 ++ wGr K (u.1 12) (u.2 7) r.2.2.2.2.2.2.2.2) A AR s (0 + xc (r.2.1.1 30)) (0 + 6 * xc (r.2.1.1 30))) (F0 m 80 ls []) := by
  have hEx := C.2.1
  have hl9 := C.2.2
  obtain ⟨⟨hx, hb, hr, hts, hown, hlocks, hin, hml⟩, hE, hA⟩ := id C.1
  have hK := hE.k
  refine lv_aload_n hx hb dF_read_80 rfl (lv_at hl 0 rfl) ?_
  refine lv_iload_n hx hb dF_read_81 rfl (lv_at hl 2 rfl) ?_
  refine va_put (D := D) (ci := 0) (v := .int v2) (ty := .int) (C := RF) (T := TF) (N := 19) hx hb hts inF tyF tyokF nmF hown hK hP hD hS 0 rfl rfl 15 (by decide) (hts _ wv_676) (fun _ h9 => h9) rfl (by decide +kernel) rfl rfl (Nat.le_of_ble_eq_true rfl) dF_read_82 (fun H locs hP hD hS => ?_)
  have hP : va_P D vwCl (wF K h0 (fF [h1, h2, h3, z3, z4, z5, z6, z7, z8, h4, h5, h6, h7, z13, z14]) (fp o0 15 v2) ++ wTx K h1 a1 o1 ++ wFu K h2 a2 o2 ++ wCu K h3 a3 o3 ++ wNl K h4 a4 o4 ++ wNl K h5 a5 o5 ++ wGr K h6 a6 o6 ++ wGr K h7 a7 o7) H := hP
  have hD : va_D A (wF K h0 (fF [h1, h2, h3, z3, z4, z5, z6, z7, z8, h4, h5, h6, h7, z13, z14]) (fp o0 15 v2) ++ wTx K h1 a1 o1 ++ wFu K h2 a2 o2 ++ wCu K h3 a3 o3 ++ wNl K h4 a4 o4 ++ wNl K h5 a5 o5 ++ wGr K h6 a6 o6 ++ wGr K h7 a7 o7) := hD
  obtain ⟨o_1, eo_1, h⟩ := op_kx h
  rw [← eo_1] at hP hD
  refine lv_iload_n hx hb dF_read_85 rfl (lv_at hl 1 rfl) ?_
  obtain rfl := Option.some.inj h
  exact dc_iretF ((fF [h1, h2, h3, z3, z4, z5, z6, z7, z8, h4, h5, h6, h7, z13, z14]), (vF [(fun _ => 0), a1, a2, a3, a4, a5, a6, a7])) rfl hx hb hr hlocks rfl (hP.sub [0, 1, 2, 3, 4, 5, 6, 7, 8, 9, 10, 11, 12, 13, 14, 15, 16, 17, 18, 19, 20, 21, 22, 23, 24, 25, 26, 27, 28, 29, 30, 31, 32, 33, 34, 35, 36, 37, 38, 39, 40, 41, 42, 43, 44, 45, 46, 47, 48, 49, 50, 51, 52, 53, 54] rfl) (hD.sub [0, 1, 2, 3, 4, 5, 6, 7, 8, 9, 10, 11, 12, 13, 14, 15, 16, 17, 18, 19, 20, 21, 22, 23, 24, 25, 26, 27, 28, 29, 30, 31, 32, 33, 34, 35, 36, 37, 38, 39, 40, 41, 42, 43, 44, 45, 46, 47, 48, 49, 50, 51, 52, 53, 54] (by decide +kernel) rfl) hS (Nat.zero_le _) (Nat.zero_le _) dF_read_86
set_option maxHeartbeats 4000000 in
set_option maxRecDepth 100000 in
theorem bF_read_75 {p : Program} {l : Launch} {e : Env} {s : State} {m : MethodId} {below : List Frame} {meth : Method} {c : Code} {A : Nat → Prop} {D : va_G} {K : Nat → ClassId} {h0 : Nat} {AR : Array Value} (C : ((dc_C p s m AR meth c cF_read 4 (Option.some Jvm.ClassFile.FieldType.int) yF_read ∧ cf_E D K A s s.heap ∧ ∀ q, s.heap.size ≤ q → A q) ∧ (∀ x ∈ c.exceptionTable.toList, False) ∧ l.stackTraces = false)) (v1 : Int32) (v2 : Int32) (o0 : cf_O) (o1 : cf_O) (o2 : cf_O) (o3 : cf_O) (o4 : cf_O) (o5 : cf_O) (o6 : cf_O) (o7 : cf_O) (r : Int32 × cf_O × cf_O × cf_O × cf_O × cf_O × cf_O × cf_O × cf_O) (h : fF_read_75 v1 v2 o0 o1 o2 o3 o4 o5 o6 o7 = some r) {h1 h2 h3 h4 h5 h6 h7 z3 z4 z5 z6 z7 z8 z13 z14 : Nat} {a1 a2 a3 a4 a5 a6 a7 : Nat → Nat} {H : Heap} {locs : List Loc} {ls : Array Slot} (hP : va_P D vwCl (wF K h0 (fF [h1, h2, h3, z3, z4, z5, z6, z7, z8, h4, h5, h6, h7, z13, z14]) o0 ++ wTx K h1 a1 o1 ++ wFu K h2 a2 o2 ++ wCu K h3 a3 o3 ++ wNl K h4 a4 o4 ++ wNl K h5 a5 o5 ++ wGr K h6 a6 o6 ++ wGr K h7 a7 o7) H) (hD : va_D A (wF K h0 (fF [h1, h2, h3, z3, z4, z5, z6, z7, z8, h4, h5, h6, h7, z13, z14]) o0 ++ wTx K h1 a1 o1 ++ wFu K h2 a2 o2 ++ wCu K h3 a3 o3 ++ wNl K h4 a4 o4 ++ wNl K h5 a5 o5 ++ wGr K h6 a6 o6 ++ wGr K h7 a7 o7)) (hS : va_S A s.heap H locs) (hl : lv_has ls 4 [(0, .ref h0), (1, .int v1), (2, .int v2)]) : W p l e ({ frames := 38, cells := (0 + xc (r.2.1.1 30)), slots := (0 + 6 * xc (r.2.1.1 30)), locals := 956 }) s m AR below meth c H locs 0 0 (xq below (r.2.1.1 30) (va_Qi (fun (x : Int32) (_ : uF) => x = r.1) (fun (u : uF) t => cf_At D A (wF K h0 (fF [h1, h2, h3, z3, z4, z5, z6, z7, z8, (u.1 9), (u.1 10), (u.1 11), (u.1 12), z13, z14]) r.2.1 ++ wTx K h1 a1 r.2.2.1 ++ wFu K h2 a2 r.2.2.2.1 ++ wCu K h3 a3 r.2.2.2.2.1 ++ wNl K (u.1 9) (u.2 4) r.2.2.2.2.2.1 ++ wNl K (u.1 10) (u.2 5) r.2.2.2.2.2.2.1 ++ wGr K (u.1 11) (u.2 6) r.2.2.2.2.2.2.2.1 ++ wGr K (u.1 12) (u.2 7) r.2.2.2.2.2.2.2.2) t) A) D (fun (u : uF) => wF K h0 (fF [h1, h2, h3, z3, z4, z5, z6, z7, z8, (u.1 9), (u.1 10), (u.1 11), (u.1 12), z13, z14]) r.2.1 ++ wTx K h1 a1 r.2.2.1 ++ wFu K h2 a2 r.2.2.2.1 ++ wCu K h3 a3 r.2.2.2.2.1 ++ wNl K (u.1 9) (u.2 4) r.2.2.2.2.2.1 ++ wNl K (u.1 10) (u.2 5) r.2.2.2.2.2.2.1 ++ wGr K (u.1 11) (u.2 6) r.2.2.2.2.2.2.2.1 ++ wGr K (u.1 12) (u.2 7) r.2.2.2.2.2.2.2.2) A AR s (0 + xc (r.2.1.1 30)) (0 + 6 * xc (r.2.1.1 30))) (F0 m 75 ls []) := by
  have hEx := C.2.1
  have hl9 := C.2.2
  obtain ⟨⟨hx, hb, hr, hts, hown, hlocks, hin, hml⟩, hE, hA⟩ := id C.1
  have hK := hE.k
  refine lv_aload_n hx hb dF_read_75 rfl (lv_at hl 0 rfl) ?_
  refine lv_iconst (v := 1) hx hb dF_read_76 (by decide) ?_
  refine va_put (D := D) (ci := 0) (v := .int 1) (ty := .boolean) (C := RF) (T := TF) (N := 19) hx hb hts inF tyF tyokF nmF hown hK hP hD hS 0 rfl rfl 16 (by decide) (hts _ wv_677) (fun _ h9 => h9) rfl (by decide +kernel) rfl rfl (Nat.le_of_ble_eq_true rfl) dF_read_77 (fun H locs hP hD hS => ?_)
  have hP : va_P D vwCl (wF K h0 (fF [h1, h2, h3, z3, z4, z5, z6, z7, z8, h4, h5, h6, h7, z13, z14]) (fp o0 16 1) ++ wTx K h1 a1 o1 ++ wFu K h2 a2 o2 ++ wCu K h3 a3 o3 ++ wNl K h4 a4 o4 ++ wNl K h5 a5 o5 ++ wGr K h6 a6 o6 ++ wGr K h7 a7 o7) H := hP
  have hD : va_D A (wF K h0 (fF [h1, h2, h3, z3, z4, z5, z6, z7, z8, h4, h5, h6, h7, z13, z14]) (fp o0 16 1) ++ wTx K h1 a1 o1 ++ wFu K h2 a2 o2 ++ wCu K h3 a3 o3 ++ wNl K h4 a4 o4 ++ wNl K h5 a5 o5 ++ wGr K h6 a6 o6 ++ wGr K h7 a7 o7) := hD
  obtain ⟨o_1, eo_1, h⟩ := op_kx h
  rw [← eo_1] at hP hD
  exact bF_read_80 C _ _ _ _ _ _ _ _ _ _ _ h hP hD hS (lv_sub hl [0, 1, 2] rfl)
set_option maxHeartbeats 4000000 in
set_option maxRecDepth 100000 in
theorem bF_read_53 {p : Program} {l : Launch} {e : Env} {s : State} {m : MethodId} {below : List Frame} {meth : Method} {c : Code} {A : Nat → Prop} {D : va_G} {K : Nat → ClassId} {h0 : Nat} {AR : Array Value} (C : ((dc_C p s m AR meth c cF_read 4 (Option.some Jvm.ClassFile.FieldType.int) yF_read ∧ cf_E D K A s s.heap ∧ ∀ q, s.heap.size ≤ q → A q) ∧ (∀ x ∈ c.exceptionTable.toList, False) ∧ l.stackTraces = false)) (v1 : Int32) (v2 : Int32) (o0 : cf_O) (o1 : cf_O) (o2 : cf_O) (o3 : cf_O) (o4 : cf_O) (o5 : cf_O) (o6 : cf_O) (o7 : cf_O) (r : Int32 × cf_O × cf_O × cf_O × cf_O × cf_O × cf_O × cf_O × cf_O) (h : fF_read_53 v1 v2 o0 o1 o2 o3 o4 o5 o6 o7 = some r) {h1 h2 h3 h4 h5 h6 h7 z3 z4 z5 z6 z7 z8 z13 z14 : Nat} {a1 a2 a3 a4 a5 a6 a7 : Nat → Nat} {H : Heap} {locs : List Loc} {ls : Array Slot} (hP : va_P D vwCl (wF K h0 (fF [h1, h2, h3, z3, z4, z5, z6, z7, z8, h4, h5, h6, h7, z13, z14]) o0 ++ wTx K h1 a1 o1 ++ wFu K h2 a2 o2 ++ wCu K h3 a3 o3 ++ wNl K h4 a4 o4 ++ wNl K h5 a5 o5 ++ wGr K h6 a6 o6 ++ wGr K h7 a7 o7) H) (hD : va_D A (wF K h0 (fF [h1, h2, h3, z3, z4, z5, z6, z7, z8, h4, h5, h6, h7, z13, z14]) o0 ++ wTx K h1 a1 o1 ++ wFu K h2 a2 o2 ++ wCu K h3 a3 o3 ++ wNl K h4 a4 o4 ++ wNl K h5 a5 o5 ++ wGr K h6 a6 o6 ++ wGr K h7 a7 o7)) (hS : va_S A s.heap H locs) (hl : lv_has ls 4 [(0, .ref h0), (1, .int v1), (2, .int v2)]) : W p l e ({ frames := 38, cells := (0 + xc (r.2.1.1 30)), slots := (0 + 6 * xc (r.2.1.1 30)), locals := 956 }) s m AR below meth c H locs 0 0 (xq below (r.2.1.1 30) (va_Qi (fun (x : Int32) (_ : uF) => x = r.1) (fun (u : uF) t => cf_At D A (wF K h0 (fF [h1, h2, h3, z3, z4, z5, z6, z7, z8, (u.1 9), (u.1 10), (u.1 11), (u.1 12), z13, z14]) r.2.1 ++ wTx K h1 a1 r.2.2.1 ++ wFu K h2 a2 r.2.2.2.1 ++ wCu K h3 a3 r.2.2.2.2.1 ++ wNl K (u.1 9) (u.2 4) r.2.2.2.2.2.1 ++ wNl K (u.1 10) (u.2 5) r.2.2.2.2.2.2.1 ++ wGr K (u.1 11) (u.2 6) r.2.2.2.2.2.2.2.1 ++ wGr K (u.1 12) (u.2 7) r.2.2.2.2.2.2.2.2) t) A) D (fun (u : uF) => wF K h0 (fF [h1, h2, h3, z3, z4, z5, z6, z7, z8, (u.1 9), (u.1 10), (u.1 11), (u.1 12), z13, z14]) r.2.1 ++ wTx K h1 a1 r.2.2.1 ++ wFu K h2 a2 r.2.2.2.1 ++ wCu K h3 a3 r.2.2.2.2.1 ++ wNl K (u.1 9) (u.2 4) r.2.2.2.2.2.1 ++ wNl K (u.1 10) (u.2 5) r.2.2.2.2.2.2.1 ++ wGr K (u.1 11) (u.2 6) r.2.2.2.2.2.2.2.1 ++ wGr K (u.1 12) (u.2 7) r.2.2.2.2.2.2.2.2) A AR s (0 + xc (r.2.1.1 30)) (0 + 6 * xc (r.2.1.1 30))) (F0 m 53 ls []) := by
  have hEx := C.2.1
  have hl9 := C.2.2
  obtain ⟨⟨hx, hb, hr, hts, hown, hlocks, hin, hml⟩, hE, hA⟩ := id C.1
  have hK := hE.k
  refine lv_aload_n hx hb dF_read_53 rfl (lv_at hl 0 rfl) ?_
  refine va_get (D := D) (ci := 0) (v := .ref h4) (C := RF) (T := TF) (N := 19) hx hb hts inF hown hK hP 0 rfl rfl 9 (by decide) (hts _ wv_670) (fun _ h9 => h9) rfl dF_read_54 ?_
  refine lv_astore_n (lv' := [(3, .ref h4), (0, .ref h0), (1, .int v1), (2, .int v2)]) hx hb dF_read_57 rfl hl (by decide) rfl (fun ls hl => ?_)
  refine lv_aload_n hx hb dF_read_58 rfl (lv_at hl 1 rfl) ?_
  refine lv_aload_n hx hb dF_read_59 rfl (lv_at hl 1 rfl) ?_
  refine va_get (D := D) (ci := 0) (v := .ref h5) (C := RF) (T := TF) (N := 19) hx hb hts inF hown hK hP 0 rfl rfl 10 (by decide) (hts _ wv_671) (fun _ h9 => h9) rfl dF_read_60 ?_
  refine va_put (D := D) (ci := 0) (v := .ref h5) (ty := (.object "CellForge$Netlist")) (C := RF) (T := TF) (N := 19) hx hb hts inF tyF tyokF nmF hown hK hP hD hS 0 rfl rfl 9 (by decide) (hts _ wv_670) (fun _ h9 => h9) rfl (by decide +kernel) rfl rfl (Nat.le_of_ble_eq_true rfl) dF_read_63 (fun H locs hP hD hS => ?_)
  have hP : va_P D vwCl (wF K h0 (fF [h1, h2, h3, z3, z4, z5, z6, z7, z8, h5, h5, h6, h7, z13, z14]) o0 ++ wTx K h1 a1 o1 ++ wFu K h2 a2 o2 ++ wCu K h3 a3 o3 ++ wNl K h4 a4 o4 ++ wNl K h5 a5 o5 ++ wGr K h6 a6 o6 ++ wGr K h7 a7 o7) H := hP
  have hD : va_D A (wF K h0 (fF [h1, h2, h3, z3, z4, z5, z6, z7, z8, h5, h5, h6, h7, z13, z14]) o0 ++ wTx K h1 a1 o1 ++ wFu K h2 a2 o2 ++ wCu K h3 a3 o3 ++ wNl K h4 a4 o4 ++ wNl K h5 a5 o5 ++ wGr K h6 a6 o6 ++ wGr K h7 a7 o7) := hD
  refine lv_aload_n hx hb dF_read_66 rfl (lv_at hl 1 rfl) ?_
  refine lv_aload_n hx hb dF_read_67 rfl (lv_at hl 0 rfl) ?_
  refine va_put (D := D) (ci := 0) (v := .ref h4) (ty := (.object "CellForge$Netlist")) (C := RF) (T := TF) (N := 19) hx hb hts inF tyF tyokF nmF hown hK hP hD hS 0 rfl rfl 10 (by decide) (hts _ wv_671) (fun _ h9 => h9) rfl (by decide +kernel) rfl rfl (Nat.le_of_ble_eq_true rfl) dF_read_68 (fun H locs hP hD hS => ?_)
  have hP : va_P D vwCl (wF K h0 (fF [h1, h2, h3, z3, z4, z5, z6, z7, z8, h5, h4, h6, h7, z13, z14]) o0 ++ wTx K h1 a1 o1 ++ wFu K h2 a2 o2 ++ wCu K h3 a3 o3 ++ wNl K h4 a4 o4 ++ wNl K h5 a5 o5 ++ wGr K h6 a6 o6 ++ wGr K h7 a7 o7) H := hP
  have hD : va_D A (wF K h0 (fF [h1, h2, h3, z3, z4, z5, z6, z7, z8, h5, h4, h6, h7, z13, z14]) o0 ++ wTx K h1 a1 o1 ++ wFu K h2 a2 o2 ++ wCu K h3 a3 o3 ++ wNl K h4 a4 o4 ++ wNl K h5 a5 o5 ++ wGr K h6 a6 o6 ++ wGr K h7 a7 o7) := hD
  refine lv_aload_n hx hb dF_read_71 rfl (lv_at hl 1 rfl) ?_
  obtain ⟨q_1, hq_1, h⟩ := op_b h
  rcases Classical.em ((q_1.1.1 30) = 0) with c_2 | c_2
  · have h := op_t c_2 h
    refine cf_callv (wc := wF K h0 (fF [h1, h2, h3, z3, z4, z5, z6, z7, z8, h5, h4, h6, h7, z13, z14]) o0 ++ wFu K h2 a2 o2 ++ wCu K h3 a3 o3) (wr := wTx K h1 a1 o1 ++ wNl K h4 a4 o4 ++ wNl K h5 a5 o5 ++ wGr K h6 a6 o6 ++ wGr K h7 a7 o7) (va_runV (As := []) (rest := []) ⟨hx, hb, hml, hown, hts⟩ (mF_takeSpareNodes l hl9 D K _ h0 h2 a2 h3 a3 h1 z3 z4 z5 z6 z7 z8 h5 h4 h6 h7 z13 z14 o0 o2 o3 _ hq_1 c_2) (cwV 0 hts (cf_GV wv_1085 wv_1087 wv_24 wv_157 wv_1088) rfl rfl rfl (by decide +kernel) ⟨Nat.le_of_ble_eq_true rfl, Nat.le_of_ble_eq_true rfl⟩) (cf_preV (wc := wF K h0 (fF [h1, h2, h3, z3, z4, z5, z6, z7, z8, h5, h4, h6, h7, z13, z14]) o0 ++ wFu K h2 a2 o2 ++ wCu K h3 a3 o3) hE hP hD hS hA rfl 0 rfl [0, 5, 6, 7, 8, 9, 10, 11, 12, 13, 14] rfl (by decide +kernel)) rfl rfl hl.1 rfl (lv_room (Nat.le_of_ble_eq_true rfl)) dF_read_72 ⟨(by have hz := xc_z c_2; show 0 + (0 + xc (q_1.1.1 30)) ≤ 0 + xc (r.2.1.1 30); omega), (by have hz := xc_z c_2; show 0 + (0 + 6 * xc (q_1.1.1 30)) ≤ 0 + 6 * xc (r.2.1.1 30); omega)⟩) hP hD hS hA [0, 5, 6, 7, 8, 9, 10, 11, 12, 13, 14] [1, 2, 3, 4, 15, 16, 17, 18, 19, 20, 21, 22, 23, 24, 25, 26, 27, 28, 29, 30, 31, 32, 33, 34, 35, 36, 37, 38, 39, 40, 41, 42, 43, 44, 45, 46, 47, 48, 49, 50, 51, 52, 53, 54] rfl rfl (by decide +kernel) (by decide +kernel) (fun u_3 H locs hw hP hD hS => ?_)
    refine W.widen (k := 0) (n := 0) (by have hz := xc_z c_2; show 0 + (0 + xc (q_1.1.1 30)) ≤ 0; omega) (by have hz := xc_z c_2; show 0 + (0 + 6 * xc (q_1.1.1 30)) ≤ 0; omega) ?_
    have hP : va_P D vwCl (wF K h0 (fF [h1, h2, h3, z3, z4, z5, z6, z7, z8, h5, h4, h7, h6, z13, z14]) q_1.1 ++ wTx K h1 a1 o1 ++ wFu K h2 a2 q_1.2.1 ++ wCu K h3 a3 q_1.2.2 ++ wNl K h4 a4 o4 ++ wNl K h5 a5 o5 ++ wGr K h6 a6 o6 ++ wGr K h7 a7 o7) H := hP.sub [44, 0, 1, 2, 3, 45, 46, 47, 48, 49, 50, 51, 52, 53, 54, 4, 5, 6, 7, 8, 9, 10, 11, 12, 13, 14, 15, 16, 17, 18, 19, 20, 21, 22, 23, 24, 25, 26, 27, 28, 29, 30, 31, 32, 33, 34, 35, 36, 37, 38, 39, 40, 41, 42, 43] rfl
    have hD : va_D A (wF K h0 (fF [h1, h2, h3, z3, z4, z5, z6, z7, z8, h5, h4, h7, h6, z13, z14]) q_1.1 ++ wTx K h1 a1 o1 ++ wFu K h2 a2 q_1.2.1 ++ wCu K h3 a3 q_1.2.2 ++ wNl K h4 a4 o4 ++ wNl K h5 a5 o5 ++ wGr K h6 a6 o6 ++ wGr K h7 a7 o7) := hD.sub [44, 0, 1, 2, 3, 45, 46, 47, 48, 49, 50, 51, 52, 53, 54, 4, 5, 6, 7, 8, 9, 10, 11, 12, 13, 14, 15, 16, 17, 18, 19, 20, 21, 22, 23, 24, 25, 26, 27, 28, 29, 30, 31, 32, 33, 34, 35, 36, 37, 38, 39, 40, 41, 42, 43] (by decide +kernel) rfl
    have hP : va_P D vwCl (wF K h0 (fF [h1, h2, h3, z3, z4, z5, z6, z7, z8, h5, h4, h7, h6, z13, z14]) q_1.1 ++ wTx K h1 a1 o1 ++ wFu K h2 a2 q_1.2.1 ++ wCu K h3 a3 q_1.2.2 ++ wNl K h5 a5 o5 ++ wNl K h4 a4 o4 ++ wGr K h7 a7 o7 ++ wGr K h6 a6 o6) H := hP.sub [0, 1, 2, 3, 4, 5, 6, 7, 8, 9, 10, 11, 12, 13, 14, 28, 29, 30, 31, 32, 33, 34, 35, 36, 37, 38, 39, 40, 15, 16, 17, 18, 19, 20, 21, 22, 23, 24, 25, 26, 27, 48, 49, 50, 51, 52, 53, 54, 41, 42, 43, 44, 45, 46, 47] rfl
    have hD : va_D A (wF K h0 (fF [h1, h2, h3, z3, z4, z5, z6, z7, z8, h5, h4, h7, h6, z13, z14]) q_1.1 ++ wTx K h1 a1 o1 ++ wFu K h2 a2 q_1.2.1 ++ wCu K h3 a3 q_1.2.2 ++ wNl K h5 a5 o5 ++ wNl K h4 a4 o4 ++ wGr K h7 a7 o7 ++ wGr K h6 a6 o6) := hD.sub [0, 1, 2, 3, 4, 5, 6, 7, 8, 9, 10, 11, 12, 13, 14, 28, 29, 30, 31, 32, 33, 34, 35, 36, 37, 38, 39, 40, 15, 16, 17, 18, 19, 20, 21, 22, 23, 24, 25, 26, 27, 48, 49, 50, 51, 52, 53, 54, 41, 42, 43, 44, 45, 46, 47] (by decide +kernel) rfl
    exact bF_read_75 C _ _ _ _ _ _ _ _ _ _ _ h hP hD hS (lv_sub hl [1, 2, 3] rfl)
  · have h := op_f c_2 h
    obtain rfl := Option.some.inj h
    refine xt_callVG (wc := wF K h0 (fF [h1, h2, h3, z3, z4, z5, z6, z7, z8, h5, h4, h6, h7, z13, z14]) o0 ++ wFu K h2 a2 o2 ++ wCu K h3 a3 o3) (wr := wTx K h1 a1 o1 ++ wNl K h4 a4 o4 ++ wNl K h5 a5 o5 ++ wGr K h6 a6 o6 ++ wGr K h7 a7 o7) (As := []) (rest := []) ⟨hx, hb, hml, hown, hts⟩ (zxF_takeSpareNodes l hl9 D K _ h0 h2 a2 h3 a3 h1 z3 z4 z5 z6 z7 z8 h5 h4 h6 h7 z13 z14 o0 o2 o3 _ hq_1 c_2) (cwV 0 hts (cf_GV wv_1085 wv_1087 wv_24 wv_157 wv_1088) rfl rfl rfl (by decide +kernel) ⟨Nat.le_of_ble_eq_true rfl, Nat.le_of_ble_eq_true rfl⟩) (cf_preV (wc := wF K h0 (fF [h1, h2, h3, z3, z4, z5, z6, z7, z8, h5, h4, h6, h7, z13, z14]) o0 ++ wFu K h2 a2 o2 ++ wCu K h3 a3 o3) hE hP hD hS hA rfl 0 rfl [0, 5, 6, 7, 8, 9, 10, 11, 12, 13, 14] rfl (by decide +kernel)) rfl hl.1 (lv_room (Nat.le_of_ble_eq_true rfl)) dF_read_72 ⟨(by show 0 + (0 + xc (q_1.1.1 30)) ≤ 0 + xc (q_1.1.1 30); omega), (by show 0 + (0 + 6 * xc (q_1.1.1 30)) ≤ 0 + 6 * xc (q_1.1.1 30); omega)⟩ hP hD hS hA [0, 5, 6, 7, 8, 9, 10, 11, 12, 13, 14] [1, 2, 3, 4, 15, 16, 17, 18, 19, 20, 21, 22, 23, 24, 25, 26, 27, 28, 29, 30, 31, 32, 33, 34, 35, 36, 37, 38, 39, 40, 41, 42, 43, 44, 45, 46, 47, 48, 49, 50, 51, 52, 53, 54] rfl rfl (by decide +kernel) (by decide +kernel) (fun u q9 ce H locs hP hD hS hce hcv hcl => ?_)
    exact xt_outF ((fF [h1, h2, h3, z3, z4, z5, z6, z7, z8, h5, h4, h7, h6, z13, z14]), (vF [(fun _ => 0), a1, a2, a3, a5, a4, a7, a6])) c_2 rfl hEx hlocks hce hcv hcl (hP.sub [44, 0, 1, 2, 3, 45, 46, 47, 48, 49, 50, 51, 52, 53, 54, 17, 18, 19, 20, 21, 22, 23, 24, 25, 26, 27, 28, 29, 4, 5, 6, 7, 8, 9, 10, 11, 12, 13, 14, 15, 16, 37, 38, 39, 40, 41, 42, 43, 30, 31, 32, 33, 34, 35, 36] rfl) (hD.sub [44, 0, 1, 2, 3, 45, 46, 47, 48, 49, 50, 51, 52, 53, 54, 17, 18, 19, 20, 21, 22, 23, 24, 25, 26, 27, 28, 29, 4, 5, 6, 7, 8, 9, 10, 11, 12, 13, 14, 15, 16, 37, 38, 39, 40, 41, 42, 43, 30, 31, 32, 33, 34, 35, 36] (by decide +kernel) rfl) hS (by show 0 + (0 + xc (q_1.1.1 30)) ≤ 0 + xc (q_1.1.1 30); omega) (by show 0 + (0 + 6 * xc (q_1.1.1 30)) ≤ 0 + 6 * xc (q_1.1.1 30); omega)
set_option maxHeartbeats 4000000 in
set_option maxRecDepth 100000 in
theorem bF_read_50 {p : Program} {l : Launch} {e : Env} {s : State} {m : MethodId} {below : List Frame} {meth : Method} {c : Code} {A : Nat → Prop} {D : va_G} {K : Nat → ClassId} {h0 : Nat} {AR : Array Value} (C : ((dc_C p s m AR meth c cF_read 4 (Option.some Jvm.ClassFile.FieldType.int) yF_read ∧ cf_E D K A s s.heap ∧ ∀ q, s.heap.size ≤ q → A q) ∧ (∀ x ∈ c.exceptionTable.toList, False) ∧ l.stackTraces = false)) (v1 : Int32) (v2 : Int32) (s0 : Int32) (o0 : cf_O) (o1 : cf_O) (o2 : cf_O) (o3 : cf_O) (o4 : cf_O) (o5 : cf_O) (o6 : cf_O) (o7 : cf_O) (r : Int32 × cf_O × cf_O × cf_O × cf_O × cf_O × cf_O × cf_O × cf_O) (h : fF_read_50 v1 v2 s0 o0 o1 o2 o3 o4 o5 o6 o7 = some r) {h1 h2 h3 h4 h5 h6 h7 z3 z4 z5 z6 z7 z8 z13 z14 : Nat} {a1 a2 a3 a4 a5 a6 a7 : Nat → Nat} {H : Heap} {locs : List Loc} {ls : Array Slot} (hP : va_P D vwCl (wF K h0 (fF [h1, h2, h3, z3, z4, z5, z6, z7, z8, h4, h5, h6, h7, z13, z14]) o0 ++ wTx K h1 a1 o1 ++ wFu K h2 a2 o2 ++ wCu K h3 a3 o3 ++ wNl K h4 a4 o4 ++ wNl K h5 a5 o5 ++ wGr K h6 a6 o6 ++ wGr K h7 a7 o7) H) (hD : va_D A (wF K h0 (fF [h1, h2, h3, z3, z4, z5, z6, z7, z8, h4, h5, h6, h7, z13, z14]) o0 ++ wTx K h1 a1 o1 ++ wFu K h2 a2 o2 ++ wCu K h3 a3 o3 ++ wNl K h4 a4 o4 ++ wNl K h5 a5 o5 ++ wGr K h6 a6 o6 ++ wGr K h7 a7 o7)) (hS : va_S A s.heap H locs) (hl : lv_has ls 4 [(0, .ref h0), (1, .int v1), (2, .int v2)]) : W p l e ({ frames := 38, cells := (0 + xc (r.2.1.1 30)), slots := (0 + 6 * xc (r.2.1.1 30)), locals := 956 }) s m AR below meth c H locs 0 0 (xq below (r.2.1.1 30) (va_Qi (fun (x : Int32) (_ : uF) => x = r.1) (fun (u : uF) t => cf_At D A (wF K h0 (fF [h1, h2, h3, z3, z4, z5, z6, z7, z8, (u.1 9), (u.1 10), (u.1 11), (u.1 12), z13, z14]) r.2.1 ++ wTx K h1 a1 r.2.2.1 ++ wFu K h2 a2 r.2.2.2.1 ++ wCu K h3 a3 r.2.2.2.2.1 ++ wNl K (u.1 9) (u.2 4) r.2.2.2.2.2.1 ++ wNl K (u.1 10) (u.2 5) r.2.2.2.2.2.2.1 ++ wGr K (u.1 11) (u.2 6) r.2.2.2.2.2.2.2.1 ++ wGr K (u.1 12) (u.2 7) r.2.2.2.2.2.2.2.2) t) A) D (fun (u : uF) => wF K h0 (fF [h1, h2, h3, z3, z4, z5, z6, z7, z8, (u.1 9), (u.1 10), (u.1 11), (u.1 12), z13, z14]) r.2.1 ++ wTx K h1 a1 r.2.2.1 ++ wFu K h2 a2 r.2.2.2.1 ++ wCu K h3 a3 r.2.2.2.2.1 ++ wNl K (u.1 9) (u.2 4) r.2.2.2.2.2.1 ++ wNl K (u.1 10) (u.2 5) r.2.2.2.2.2.2.1 ++ wGr K (u.1 11) (u.2 6) r.2.2.2.2.2.2.2.1 ++ wGr K (u.1 12) (u.2 7) r.2.2.2.2.2.2.2.2) A AR s (0 + xc (r.2.1.1 30)) (0 + 6 * xc (r.2.1.1 30))) (F0 m 50 ls [.int s0]) := by
  have hEx := C.2.1
  have hl9 := C.2.2
  obtain ⟨⟨hx, hb, hr, hts, hown, hlocks, hin, hml⟩, hE, hA⟩ := id C.1
  have hK := hE.k
  rcases Classical.em (s0 = 0) with c_1 | c_1
  · have h := op_t c_1 h
    obtain rfl := Option.some.inj h
    rw [c_1]
    refine xt_callS (wc := []) (wr := wF K h0 (fF [h1, h2, h3, z3, z4, z5, z6, z7, z8, h4, h5, h6, h7, z13, z14]) o0 ++ wTx K h1 a1 o1 ++ wFu K h2 a2 o2 ++ wCu K h3 a3 o3 ++ wNl K h4 a4 o4 ++ wNl K h5 a5 o5 ++ wGr K h6 a6 o6 ++ wGr K h7 a7 o7) (As := [.int 0]) (rest := []) ⟨hx, hb, hml, hown, hts⟩ (xF_needRoom l hl9 D K _) (va_cwS 1 hts (cf_GS wv_1082 wv_1083 wv_157 wv_1084) rfl rfl rfl (by decide +kernel) ⟨Nat.le_of_ble_eq_true rfl, Nat.le_of_ble_eq_true rfl⟩) (cf_preS (wc := []) hE hP hD hS hA [] rfl (by decide +kernel)) rfl hl.1 (lv_room (Nat.le_of_ble_eq_true rfl)) dF_read_50 ⟨(xc_c (show (4 : Int32) ≠ 0 by decide)), (xc_s (show (4 : Int32) ≠ 0 by decide))⟩ hP hD hS hA [] [0, 1, 2, 3, 4, 5, 6, 7, 8, 9, 10, 11, 12, 13, 14, 15, 16, 17, 18, 19, 20, 21, 22, 23, 24, 25, 26, 27, 28, 29, 30, 31, 32, 33, 34, 35, 36, 37, 38, 39, 40, 41, 42, 43, 44, 45, 46, 47, 48, 49, 50, 51, 52, 53, 54] rfl rfl (by decide +kernel) (by decide +kernel) (fun q9 ce H locs hP hD hS hce hcv hcl => ?_)
    exact xt_outF ((fF [h1, h2, h3, z3, z4, z5, z6, z7, z8, h4, h5, h6, h7, z13, z14]), (vF [(fun _ => 0), a1, a2, a3, a4, a5, a6, a7])) (show (4 : Int32) ≠ 0 by decide) (show xE 4 = "java/lang/UnsupportedOperationException" from rfl) hEx hlocks hce hcv hcl (hP.sub [0, 1, 2, 3, 4, 5, 6, 7, 8, 9, 10, 11, 12, 13, 14, 15, 16, 17, 18, 19, 20, 21, 22, 23, 24, 25, 26, 27, 28, 29, 30, 31, 32, 33, 34, 35, 36, 37, 38, 39, 40, 41, 42, 43, 44, 45, 46, 47, 48, 49, 50, 51, 52, 53, 54] rfl) (hD.sub [0, 1, 2, 3, 4, 5, 6, 7, 8, 9, 10, 11, 12, 13, 14, 15, 16, 17, 18, 19, 20, 21, 22, 23, 24, 25, 26, 27, 28, 29, 30, 31, 32, 33, 34, 35, 36, 37, 38, 39, 40, 41, 42, 43, 44, 45, 46, 47, 48, 49, 50, 51, 52, 53, 54] (by decide +kernel) rfl) hS (xc_c (show (4 : Int32) ≠ 0 by decide)) (xc_s (show (4 : Int32) ≠ 0 by decide))
  · have h := op_f c_1 h
    refine cf_pcallv (va_runS (As := [.int s0]) (rest := []) ⟨hx, hb, hml, hown, hts⟩ (kn_needRoom l s0 c_1) (va_cwS 1 hts (cf_GS wv_1082 wv_1083 wv_157 wv_1084) rfl rfl rfl (by decide +kernel) ⟨Nat.le_of_ble_eq_true rfl, Nat.le_of_ble_eq_true rfl⟩) preEq rfl rfl hl.1 rfl (lv_room (Nat.le_of_ble_eq_true rfl)) dF_read_50 ⟨Nat.zero_le _, Nat.zero_le _⟩) ?_
    exact bF_read_53 C _ _ _ _ _ _ _ _ _ _ _ h hP hD hS (lv_sub hl [0, 1, 2] rfl)
set_option maxHeartbeats 4000000 in
set_option maxRecDepth 100000 in
theorem bF_read_35 {p : Program} {l : Launch} {e : Env} {s : State} {m : MethodId} {below : List Frame} {meth : Method} {c : Code} {A : Nat → Prop} {D : va_G} {K : Nat → ClassId} {h0 : Nat} {AR : Array Value} (C : ((dc_C p s m AR meth c cF_read 4 (Option.some Jvm.ClassFile.FieldType.int) yF_read ∧ cf_E D K A s s.heap ∧ ∀ q, s.heap.size ≤ q → A q) ∧ (∀ x ∈ c.exceptionTable.toList, False) ∧ l.stackTraces = false)) (v1 : Int32) (v2 : Int32) (o0 : cf_O) (o1 : cf_O) (o2 : cf_O) (o3 : cf_O) (o4 : cf_O) (o5 : cf_O) (o6 : cf_O) (o7 : cf_O) (r : Int32 × cf_O × cf_O × cf_O × cf_O × cf_O × cf_O × cf_O × cf_O) (h : fF_read_35 v1 v2 o0 o1 o2 o3 o4 o5 o6 o7 = some r) {h1 h2 h3 h4 h5 h6 h7 z3 z4 z5 z6 z7 z8 z13 z14 : Nat} {a1 a2 a3 a4 a5 a6 a7 : Nat → Nat} {H : Heap} {locs : List Loc} {ls : Array Slot} (hP : va_P D vwCl (wF K h0 (fF [h1, h2, h3, z3, z4, z5, z6, z7, z8, h4, h5, h6, h7, z13, z14]) o0 ++ wTx K h1 a1 o1 ++ wFu K h2 a2 o2 ++ wCu K h3 a3 o3 ++ wNl K h4 a4 o4 ++ wNl K h5 a5 o5 ++ wGr K h6 a6 o6 ++ wGr K h7 a7 o7) H) (hD : va_D A (wF K h0 (fF [h1, h2, h3, z3, z4, z5, z6, z7, z8, h4, h5, h6, h7, z13, z14]) o0 ++ wTx K h1 a1 o1 ++ wFu K h2 a2 o2 ++ wCu K h3 a3 o3 ++ wNl K h4 a4 o4 ++ wNl K h5 a5 o5 ++ wGr K h6 a6 o6 ++ wGr K h7 a7 o7)) (hS : va_S A s.heap H locs) (hl : lv_has ls 4 [(0, .ref h0), (1, .int v1), (2, .int v2)]) : W p l e ({ frames := 38, cells := (0 + xc (r.2.1.1 30)), slots := (0 + 6 * xc (r.2.1.1 30)), locals := 956 }) s m AR below meth c H locs 0 0 (xq below (r.2.1.1 30) (va_Qi (fun (x : Int32) (_ : uF) => x = r.1) (fun (u : uF) t => cf_At D A (wF K h0 (fF [h1, h2, h3, z3, z4, z5, z6, z7, z8, (u.1 9), (u.1 10), (u.1 11), (u.1 12), z13, z14]) r.2.1 ++ wTx K h1 a1 r.2.2.1 ++ wFu K h2 a2 r.2.2.2.1 ++ wCu K h3 a3 r.2.2.2.2.1 ++ wNl K (u.1 9) (u.2 4) r.2.2.2.2.2.1 ++ wNl K (u.1 10) (u.2 5) r.2.2.2.2.2.2.1 ++ wGr K (u.1 11) (u.2 6) r.2.2.2.2.2.2.2.1 ++ wGr K (u.1 12) (u.2 7) r.2.2.2.2.2.2.2.2) t) A) D (fun (u : uF) => wF K h0 (fF [h1, h2, h3, z3, z4, z5, z6, z7, z8, (u.1 9), (u.1 10), (u.1 11), (u.1 12), z13, z14]) r.2.1 ++ wTx K h1 a1 r.2.2.1 ++ wFu K h2 a2 r.2.2.2.1 ++ wCu K h3 a3 r.2.2.2.2.1 ++ wNl K (u.1 9) (u.2 4) r.2.2.2.2.2.1 ++ wNl K (u.1 10) (u.2 5) r.2.2.2.2.2.2.1 ++ wGr K (u.1 11) (u.2 6) r.2.2.2.2.2.2.2.1 ++ wGr K (u.1 12) (u.2 7) r.2.2.2.2.2.2.2.2) A AR s (0 + xc (r.2.1.1 30)) (0 + 6 * xc (r.2.1.1 30))) (F0 m 35 ls []) := by
  have hEx := C.2.1
  have hl9 := C.2.2
  obtain ⟨⟨hx, hb, hr, hts, hown, hlocks, hin, hml⟩, hE, hA⟩ := id C.1
  have hK := hE.k
  refine lv_aload_n hx hb dF_read_35 rfl (lv_at hl 0 rfl) ?_
  refine va_get (D := D) (ci := 0) (v := .ref h7) (C := RF) (T := TF) (N := 19) hx hb hts inF hown hK hP 0 rfl rfl 12 (by decide) (hts _ wv_673) (fun _ h9 => h9) rfl dF_read_36 ?_
  refine va_get (D := D) (ci := 3) (v := .int (o7.1 3)) (C := RGr) (T := TGr) (N := 10) hx hb hts inGr hown hK hP 48 rfl rfl 3 (by decide) (hts _ wv_559) (fun _ h9 => h9) rfl dF_read_39 ?_
  refine lv_if_ne (tgt := 49) hx hb dF_read_42 (by decide) (fun c_1 => ?_) (fun c_1 => ?_)
  · have h := op_f c_1 h
    refine lv_iconst (v := 0) hx hb dF_read_49 (by decide) ?_
    exact bF_read_50 C _ _ _ _ _ _ _ _ _ _ _ _ h hP hD hS (lv_sub hl [0, 1, 2] rfl)
  · have h := op_t c_1 h
    refine lv_iconst (v := 1) hx hb dF_read_45 (by decide) ?_
    refine lv_goto (tgt := 50) hx hb dF_read_46 (by decide) ?_
    exact bF_read_50 C _ _ _ _ _ _ _ _ _ _ _ _ h hP hD hS (lv_sub hl [0, 1, 2] rfl)
set_option maxHeartbeats 4000000 in
set_option maxRecDepth 100000 in
theorem bF_read_11 {p : Program} {l : Launch} {e : Env} {s : State} {m : MethodId} {below : List Frame} {meth : Method} {c : Code} {A : Nat → Prop} {D : va_G} {K : Nat → ClassId} {h0 : Nat} {AR : Array Value} (C : ((dc_C p s m AR meth c cF_read 4 (Option.some Jvm.ClassFile.FieldType.int) yF_read ∧ cf_E D K A s s.heap ∧ ∀ q, s.heap.size ≤ q → A q) ∧ (∀ x ∈ c.exceptionTable.toList, False) ∧ l.stackTraces = false)) (s0 : Int32) (o0 : cf_O) (o1 : cf_O) (o2 : cf_O) (o3 : cf_O) (o4 : cf_O) (o5 : cf_O) (o6 : cf_O) (o7 : cf_O) (r : Int32 × cf_O × cf_O × cf_O × cf_O × cf_O × cf_O × cf_O × cf_O) (h : fF_read_11 s0 o0 o1 o2 o3 o4 o5 o6 o7 = some r) {h1 h2 h3 h4 h5 h6 h7 z3 z4 z5 z6 z7 z8 z13 z14 : Nat} {a1 a2 a3 a4 a5 a6 a7 : Nat → Nat} {H : Heap} {locs : List Loc} {ls : Array Slot} (hP : va_P D vwCl (wF K h0 (fF [h1, h2, h3, z3, z4, z5, z6, z7, z8, h4, h5, h6, h7, z13, z14]) o0 ++ wTx K h1 a1 o1 ++ wFu K h2 a2 o2 ++ wCu K h3 a3 o3 ++ wNl K h4 a4 o4 ++ wNl K h5 a5 o5 ++ wGr K h6 a6 o6 ++ wGr K h7 a7 o7) H) (hD : va_D A (wF K h0 (fF [h1, h2, h3, z3, z4, z5, z6, z7, z8, h4, h5, h6, h7, z13, z14]) o0 ++ wTx K h1 a1 o1 ++ wFu K h2 a2 o2 ++ wCu K h3 a3 o3 ++ wNl K h4 a4 o4 ++ wNl K h5 a5 o5 ++ wGr K h6 a6 o6 ++ wGr K h7 a7 o7)) (hS : va_S A s.heap H locs) (hl : lv_has ls 4 [(0, .ref h0)]) : W p l e ({ frames := 38, cells := (0 + xc (r.2.1.1 30)), slots := (0 + 6 * xc (r.2.1.1 30)), locals := 956 }) s m AR below meth c H locs 0 0 (xq below (r.2.1.1 30) (va_Qi (fun (x : Int32) (_ : uF) => x = r.1) (fun (u : uF) t => cf_At D A (wF K h0 (fF [h1, h2, h3, z3, z4, z5, z6, z7, z8, (u.1 9), (u.1 10), (u.1 11), (u.1 12), z13, z14]) r.2.1 ++ wTx K h1 a1 r.2.2.1 ++ wFu K h2 a2 r.2.2.2.1 ++ wCu K h3 a3 r.2.2.2.2.1 ++ wNl K (u.1 9) (u.2 4) r.2.2.2.2.2.1 ++ wNl K (u.1 10) (u.2 5) r.2.2.2.2.2.2.1 ++ wGr K (u.1 11) (u.2 6) r.2.2.2.2.2.2.2.1 ++ wGr K (u.1 12) (u.2 7) r.2.2.2.2.2.2.2.2) t) A) D (fun (u : uF) => wF K h0 (fF [h1, h2, h3, z3, z4, z5, z6, z7, z8, (u.1 9), (u.1 10), (u.1 11), (u.1 12), z13, z14]) r.2.1 ++ wTx K h1 a1 r.2.2.1 ++ wFu K h2 a2 r.2.2.2.1 ++ wCu K h3 a3 r.2.2.2.2.1 ++ wNl K (u.1 9) (u.2 4) r.2.2.2.2.2.1 ++ wNl K (u.1 10) (u.2 5) r.2.2.2.2.2.2.1 ++ wGr K (u.1 11) (u.2 6) r.2.2.2.2.2.2.2.1 ++ wGr K (u.1 12) (u.2 7) r.2.2.2.2.2.2.2.2) A AR s (0 + xc (r.2.1.1 30)) (0 + 6 * xc (r.2.1.1 30))) (F0 m 11 ls [.int s0]) := by
  have hEx := C.2.1
  have hl9 := C.2.2
  obtain ⟨⟨hx, hb, hr, hts, hown, hlocks, hin, hml⟩, hE, hA⟩ := id C.1
  have hK := hE.k
  refine lv_istore_n (lv' := [(1, .int s0), (0, .ref h0)]) hx hb dF_read_11 rfl hl (by decide) rfl (fun ls hl => ?_)
  refine lv_aload_n hx hb dF_read_12 rfl (lv_at hl 1 rfl) ?_
  refine va_get (D := D) (ci := 0) (v := .ref h5) (C := RF) (T := TF) (N := 19) hx hb hts inF hown hK hP 0 rfl rfl 10 (by decide) (hts _ wv_671) (fun _ h9 => h9) rfl dF_read_13 ?_
  refine va_get (D := D) (ci := 2) (v := .int (o5.1 2)) (C := RNl) (T := TNl) (N := 17) hx hb hts inNl hown hK hP 28 rfl rfl 2 (by decide) (hts _ wv_488) (fun _ h9 => h9) rfl dF_read_16 ?_
  refine lv_istore_n (lv' := [(2, .int (o5.1 2)), (1, .int s0), (0, .ref h0)]) hx hb dF_read_19 rfl hl (by decide) rfl (fun ls hl => ?_)
  refine lv_iload_n hx hb dF_read_20 rfl (lv_at hl 1 rfl) ?_
  refine lv_if_ne (tgt := 80) hx hb dF_read_21 (by decide) (fun c_1 => ?_) (fun c_1 => ?_)
  · have h := op_f c_1 h
    exact bF_read_80 C _ _ _ _ _ _ _ _ _ _ _ h hP hD hS (lv_sub hl [2, 1, 0] rfl)
  · have h := op_t c_1 h
    refine lv_aload_n hx hb dF_read_24 rfl (lv_at hl 2 rfl) ?_
    refine va_get (D := D) (ci := 0) (v := .ref h5) (C := RF) (T := TF) (N := 19) hx hb hts inF hown hK hP 0 rfl rfl 10 (by decide) (hts _ wv_671) (fun _ h9 => h9) rfl dF_read_25 ?_
    refine lv_aload_n hx hb dF_read_28 rfl (lv_at hl 2 rfl) ?_
    refine va_get (D := D) (ci := 0) (v := .ref h7) (C := RF) (T := TF) (N := 19) hx hb hts inF hown hK hP 0 rfl rfl 12 (by decide) (hts _ wv_673) (fun _ h9 => h9) rfl dF_read_29 ?_
    obtain ⟨q_2, hq_2, h⟩ := op_b h
    refine cf_callv (wc := wNl K h5 a5 o5 ++ wGr K h7 a7 o7) (wr := wF K h0 (fF [h1, h2, h3, z3, z4, z5, z6, z7, z8, h4, h5, h6, h7, z13, z14]) o0 ++ wTx K h1 a1 o1 ++ wFu K h2 a2 o2 ++ wCu K h3 a3 o3 ++ wNl K h4 a4 o4 ++ wGr K h6 a6 o6) (va_runV (As := [.ref h7]) (rest := []) ⟨hx, hb, hml, hown, hts⟩ (mNl_buildInto l D K _ h5 a5 h7 a7 o5 o7 _ hq_2) (cwV 1 hts (cf_GV wv_1032 wv_1033 wv_1034 wv_170 wv_1035) rfl rfl rfl (by decide +kernel) ⟨Nat.le_of_ble_eq_true rfl, Nat.le_of_ble_eq_true rfl⟩) (cf_preV (wc := wNl K h5 a5 o5 ++ wGr K h7 a7 o7) hE hP hD hS hA rfl 28 rfl [28, 29, 30, 31, 32, 33, 34, 35, 36, 37, 38, 39, 40, 48, 49, 50, 51, 52, 53, 54] rfl (by decide +kernel)) rfl rfl hl.1 rfl (lv_room (Nat.le_of_ble_eq_true rfl)) dF_read_32 ⟨Nat.zero_le _, Nat.zero_le _⟩) hP hD hS hA [28, 29, 30, 31, 32, 33, 34, 35, 36, 37, 38, 39, 40, 48, 49, 50, 51, 52, 53, 54] [0, 1, 2, 3, 4, 5, 6, 7, 8, 9, 10, 11, 12, 13, 14, 15, 16, 17, 18, 19, 20, 21, 22, 23, 24, 25, 26, 27, 41, 42, 43, 44, 45, 46, 47] rfl rfl (by decide +kernel) (by decide +kernel) (fun _ H locs hw_3 hP hD hS => ?_)
    have hP : va_P D vwCl (wF K h0 (fF [h1, h2, h3, z3, z4, z5, z6, z7, z8, h4, h5, h6, h7, z13, z14]) o0 ++ wTx K h1 a1 o1 ++ wFu K h2 a2 o2 ++ wCu K h3 a3 o3 ++ wNl K h4 a4 o4 ++ wNl K h5 a5 q_2.1 ++ wGr K h6 a6 o6 ++ wGr K h7 a7 q_2.2) H := hP.sub [0, 1, 2, 3, 4, 5, 6, 7, 8, 9, 10, 11, 12, 13, 14, 15, 16, 17, 18, 19, 20, 21, 22, 23, 24, 25, 26, 27, 35, 36, 37, 38, 39, 40, 41, 42, 43, 44, 45, 46, 47, 28, 29, 30, 31, 32, 33, 34, 48, 49, 50, 51, 52, 53, 54] rfl
    have hD : va_D A (wF K h0 (fF [h1, h2, h3, z3, z4, z5, z6, z7, z8, h4, h5, h6, h7, z13, z14]) o0 ++ wTx K h1 a1 o1 ++ wFu K h2 a2 o2 ++ wCu K h3 a3 o3 ++ wNl K h4 a4 o4 ++ wNl K h5 a5 q_2.1 ++ wGr K h6 a6 o6 ++ wGr K h7 a7 q_2.2) := hD.sub [0, 1, 2, 3, 4, 5, 6, 7, 8, 9, 10, 11, 12, 13, 14, 15, 16, 17, 18, 19, 20, 21, 22, 23, 24, 25, 26, 27, 35, 36, 37, 38, 39, 40, 41, 42, 43, 44, 45, 46, 47, 28, 29, 30, 31, 32, 33, 34, 48, 49, 50, 51, 52, 53, 54] (by decide +kernel) rfl
    exact bF_read_35 C _ _ _ _ _ _ _ _ _ _ _ h hP hD hS (lv_sub hl [2, 1, 0] rfl)
set_option maxHeartbeats 4000000 in
set_option maxRecDepth 100000 in
theorem bF_read_0 {p : Program} {l : Launch} {e : Env} {s : State} {m : MethodId} {below : List Frame} {meth : Method} {c : Code} {A : Nat → Prop} {D : va_G} {K : Nat → ClassId} {h0 : Nat} {AR : Array Value} (C : ((dc_C p s m AR meth c cF_read 4 (Option.some Jvm.ClassFile.FieldType.int) yF_read ∧ cf_E D K A s s.heap ∧ ∀ q, s.heap.size ≤ q → A q) ∧ (∀ x ∈ c.exceptionTable.toList, False) ∧ l.stackTraces = false)) (o0 : cf_O) (o1 : cf_O) (o2 : cf_O) (o3 : cf_O) (o4 : cf_O) (o5 : cf_O) (o6 : cf_O) (o7 : cf_O) (r : Int32 × cf_O × cf_O × cf_O × cf_O × cf_O × cf_O × cf_O × cf_O) (h : fF_read_0 o0 o1 o2 o3 o4 o5 o6 o7 = some r) {h1 h2 h3 h4 h5 h6 h7 z3 z4 z5 z6 z7 z8 z13 z14 : Nat} {a1 a2 a3 a4 a5 a6 a7 : Nat → Nat} {H : Heap} {locs : List Loc} {ls : Array Slot} (hP : va_P D vwCl (wF K h0 (fF [h1, h2, h3, z3, z4, z5, z6, z7, z8, h4, h5, h6, h7, z13, z14]) o0 ++ wTx K h1 a1 o1 ++ wFu K h2 a2 o2 ++ wCu K h3 a3 o3 ++ wNl K h4 a4 o4 ++ wNl K h5 a5 o5 ++ wGr K h6 a6 o6 ++ wGr K h7 a7 o7) H) (hD : va_D A (wF K h0 (fF [h1, h2, h3, z3, z4, z5, z6, z7, z8, h4, h5, h6, h7, z13, z14]) o0 ++ wTx K h1 a1 o1 ++ wFu K h2 a2 o2 ++ wCu K h3 a3 o3 ++ wNl K h4 a4 o4 ++ wNl K h5 a5 o5 ++ wGr K h6 a6 o6 ++ wGr K h7 a7 o7)) (hS : va_S A s.heap H locs) (hl : lv_has ls 4 [(0, .ref h0)]) : W p l e ({ frames := 38, cells := (0 + xc (r.2.1.1 30)), slots := (0 + 6 * xc (r.2.1.1 30)), locals := 956 }) s m AR below meth c H locs 0 0 (xq below (r.2.1.1 30) (va_Qi (fun (x : Int32) (_ : uF) => x = r.1) (fun (u : uF) t => cf_At D A (wF K h0 (fF [h1, h2, h3, z3, z4, z5, z6, z7, z8, (u.1 9), (u.1 10), (u.1 11), (u.1 12), z13, z14]) r.2.1 ++ wTx K h1 a1 r.2.2.1 ++ wFu K h2 a2 r.2.2.2.1 ++ wCu K h3 a3 r.2.2.2.2.1 ++ wNl K (u.1 9) (u.2 4) r.2.2.2.2.2.1 ++ wNl K (u.1 10) (u.2 5) r.2.2.2.2.2.2.1 ++ wGr K (u.1 11) (u.2 6) r.2.2.2.2.2.2.2.1 ++ wGr K (u.1 12) (u.2 7) r.2.2.2.2.2.2.2.2) t) A) D (fun (u : uF) => wF K h0 (fF [h1, h2, h3, z3, z4, z5, z6, z7, z8, (u.1 9), (u.1 10), (u.1 11), (u.1 12), z13, z14]) r.2.1 ++ wTx K h1 a1 r.2.2.1 ++ wFu K h2 a2 r.2.2.2.1 ++ wCu K h3 a3 r.2.2.2.2.1 ++ wNl K (u.1 9) (u.2 4) r.2.2.2.2.2.1 ++ wNl K (u.1 10) (u.2 5) r.2.2.2.2.2.2.1 ++ wGr K (u.1 11) (u.2 6) r.2.2.2.2.2.2.2.1 ++ wGr K (u.1 12) (u.2 7) r.2.2.2.2.2.2.2.2) A AR s (0 + xc (r.2.1.1 30)) (0 + 6 * xc (r.2.1.1 30))) (F0 m 0 ls []) := by
  have hEx := C.2.1
  have hl9 := C.2.2
  obtain ⟨⟨hx, hb, hr, hts, hown, hlocks, hin, hml⟩, hE, hA⟩ := id C.1
  have hK := hE.k
  refine lv_aload_n hx hb dF_read_0 rfl (lv_at hl 0 rfl) ?_
  refine va_get (D := D) (ci := 0) (v := .ref h5) (C := RF) (T := TF) (N := 19) hx hb hts inF hown hK hP 0 rfl rfl 10 (by decide) (hts _ wv_671) (fun _ h9 => h9) rfl dF_read_1 ?_
  refine lv_aload_n hx hb dF_read_4 rfl (lv_at hl 0 rfl) ?_
  refine va_get (D := D) (ci := 0) (v := .ref h1) (C := RF) (T := TF) (N := 19) hx hb hts inF hown hK hP 0 rfl rfl 0 (by decide) (hts _ wv_661) (fun _ h9 => h9) rfl dF_read_5 ?_
  obtain ⟨q_1, hq_1, h⟩ := op_b h
  refine cf_calli (wc := wNl K h5 a5 o5 ++ wTx K h1 a1 o1) (wr := wF K h0 (fF [h1, h2, h3, z3, z4, z5, z6, z7, z8, h4, h5, h6, h7, z13, z14]) o0 ++ wFu K h2 a2 o2 ++ wCu K h3 a3 o3 ++ wNl K h4 a4 o4 ++ wGr K h6 a6 o6 ++ wGr K h7 a7 o7) (va_runV (As := [.ref h1]) (rest := []) ⟨hx, hb, hml, hown, hts⟩ (mNl_scan l D K _ h5 a5 h1 a1 o5 o1 _ hq_1) (cwV 1 hts (cf_GV wv_965 wv_966 wv_967 wv_170 wv_968) rfl rfl rfl (by decide +kernel) ⟨Nat.le_of_ble_eq_true rfl, Nat.le_of_ble_eq_true rfl⟩) (cf_preV (wc := wNl K h5 a5 o5 ++ wTx K h1 a1 o1) hE hP hD hS hA rfl 28 rfl [28, 29, 30, 31, 32, 33, 34, 35, 36, 37, 38, 39, 40, 1, 2, 3, 4] rfl (by decide +kernel)) rfl rfl hl.1 rfl (lv_room (Nat.le_of_ble_eq_true rfl)) dF_read_8 ⟨Nat.zero_le _, Nat.zero_le _⟩) hP hD hS hA [28, 29, 30, 31, 32, 33, 34, 35, 36, 37, 38, 39, 40, 1, 2, 3, 4] [0, 5, 6, 7, 8, 9, 10, 11, 12, 13, 14, 15, 16, 17, 18, 19, 20, 21, 22, 23, 24, 25, 26, 27, 41, 42, 43, 44, 45, 46, 47, 48, 49, 50, 51, 52, 53, 54] rfl rfl (by decide +kernel) (by decide +kernel) (fun r_2 _ H locs hw_3 hP hD hS => ?_)
  subst r_2
  have hP : va_P D vwCl (wF K h0 (fF [h1, h2, h3, z3, z4, z5, z6, z7, z8, h4, h5, h6, h7, z13, z14]) o0 ++ wTx K h1 a1 q_1.2.2 ++ wFu K h2 a2 o2 ++ wCu K h3 a3 o3 ++ wNl K h4 a4 o4 ++ wNl K h5 a5 q_1.2.1 ++ wGr K h6 a6 o6 ++ wGr K h7 a7 o7) H := hP.sub [0, 51, 52, 53, 54, 1, 2, 3, 4, 5, 6, 7, 8, 9, 10, 11, 12, 13, 14, 15, 16, 17, 18, 19, 20, 21, 22, 23, 38, 39, 40, 41, 42, 43, 44, 45, 46, 47, 48, 49, 50, 24, 25, 26, 27, 28, 29, 30, 31, 32, 33, 34, 35, 36, 37] rfl
  have hD : va_D A (wF K h0 (fF [h1, h2, h3, z3, z4, z5, z6, z7, z8, h4, h5, h6, h7, z13, z14]) o0 ++ wTx K h1 a1 q_1.2.2 ++ wFu K h2 a2 o2 ++ wCu K h3 a3 o3 ++ wNl K h4 a4 o4 ++ wNl K h5 a5 q_1.2.1 ++ wGr K h6 a6 o6 ++ wGr K h7 a7 o7) := hD.sub [0, 51, 52, 53, 54, 1, 2, 3, 4, 5, 6, 7, 8, 9, 10, 11, 12, 13, 14, 15, 16, 17, 18, 19, 20, 21, 22, 23, 38, 39, 40, 41, 42, 43, 44, 45, 46, 47, 48, 49, 50, 24, 25, 26, 27, 28, 29, 30, 31, 32, 33, 34, 35, 36, 37] (by decide +kernel) rfl
  exact bF_read_11 C _ _ _ _ _ _ _ _ _ _ h hP hD hS (lv_sub hl [0] rfl)
set_option maxRecDepth 100000 in
theorem mF_read (l : Launch) (hl9 : l.stackTraces = false) (D : va_G) (K : Nat → ClassId) (sz : Nat) (h0 : Nat) (h1 : Nat) (a1 : Nat → Nat) (h2 : Nat) (a2 : Nat → Nat) (h3 : Nat) (a3 : Nat → Nat) (h4 : Nat) (a4 : Nat → Nat) (h5 : Nat) (a5 : Nat → Nat) (h6 : Nat) (a6 : Nat → Nat) (h7 : Nat) (a7 : Nat → Nat) (z3 : Nat) (z4 : Nat) (z5 : Nat) (z6 : Nat) (z7 : Nat) (z8 : Nat) (z13 : Nat) (z14 : Nat) (o0 : cf_O) (o1 : cf_O) (o2 : cf_O) (o3 : cf_O) (o4 : cf_O) (o5 : cf_O) (o6 : cf_O) (o7 : cf_O) (r : Int32 × cf_O × cf_O × cf_O × cf_O × cf_O × cf_O × cf_O × cf_O) (h : fF_read o0 o1 o2 o3 o4 o5 o6 o7 = some r) (h0c : (r.2.1.1 30) = 0) : Met l yF_read (Cond.code yF_read cF_read 4 (Option.some Jvm.ClassFile.FieldType.int) :: cfB) ({ frames := 38, cells := (0 + xc (r.2.1.1 30)), slots := (0 + 6 * xc (r.2.1.1 30)), locals := 956 }) (va_Pc [.ref h0] (cf_Pre D K sz (wF K h0 (fF [h1, h2, h3, z3, z4, z5, z6, z7, z8, h4, h5, h6, h7, z13, z14]) o0 ++ wTx K h1 a1 o1 ++ wFu K h2 a2 o2 ++ wCu K h3 a3 o3 ++ wNl K h4 a4 o4 ++ wNl K h5 a5 o5 ++ wGr K h6 a6 o6 ++ wGr K h7 a7 o7))) (va_Qi (fun (x : Int32) (_ : uF) => x = r.1) (fun (u : uF) t => cf_At D (va_A (wF K h0 (fF [h1, h2, h3, z3, z4, z5, z6, z7, z8, h4, h5, h6, h7, z13, z14]) o0 ++ wTx K h1 a1 o1 ++ wFu K h2 a2 o2 ++ wCu K h3 a3 o3 ++ wNl K h4 a4 o4 ++ wNl K h5 a5 o5 ++ wGr K h6 a6 o6 ++ wGr K h7 a7 o7) sz) (wF K h0 (fF [h1, h2, h3, z3, z4, z5, z6, z7, z8, (u.1 9), (u.1 10), (u.1 11), (u.1 12), z13, z14]) r.2.1 ++ wTx K h1 a1 r.2.2.1 ++ wFu K h2 a2 r.2.2.2.1 ++ wCu K h3 a3 r.2.2.2.2.1 ++ wNl K (u.1 9) (u.2 4) r.2.2.2.2.2.1 ++ wNl K (u.1 10) (u.2 5) r.2.2.2.2.2.2.1 ++ wGr K (u.1 11) (u.2 6) r.2.2.2.2.2.2.2.1 ++ wGr K (u.1 12) (u.2 7) r.2.2.2.2.2.2.2.2) t) (va_A (wF K h0 (fF [h1, h2, h3, z3, z4, z5, z6, z7, z8, h4, h5, h6, h7, z13, z14]) o0 ++ wTx K h1 a1 o1 ++ wFu K h2 a2 o2 ++ wCu K h3 a3 o3 ++ wNl K h4 a4 o4 ++ wNl K h5 a5 o5 ++ wGr K h6 a6 o6 ++ wGr K h7 a7 o7) sz)) (0 + xc (r.2.1.1 30)) (0 + 6 * xc (r.2.1.1 30)) (va_A (wF K h0 (fF [h1, h2, h3, z3, z4, z5, z6, z7, z8, h4, h5, h6, h7, z13, z14]) o0 ++ wTx K h1 a1 o1 ++ wFu K h2 a2 o2 ++ wCu K h3 a3 o3 ++ wNl K h4 a4 o4 ++ wNl K h5 a5 o5 ++ wGr K h6 a6 o6 ++ wGr K h7 a7 o7) sz) := by
  refine cf_ofWF (y := yF_read) (As := [.ref h0]) (WS := wF K h0 (fF [h1, h2, h3, z3, z4, z5, z6, z7, z8, h4, h5, h6, h7, z13, z14]) o0 ++ wTx K h1 a1 o1 ++ wFu K h2 a2 o2 ++ wCu K h3 a3 o3 ++ wNl K h4 a4 o4 ++ wNl K h5 a5 o5 ++ wGr K h6 a6 o6 ++ wGr K h7 a7 o7) (maxL := 4) (fun A => (va_Qi (fun (x : Int32) (_ : uF) => x = r.1) (fun (u : uF) t => cf_At D A (wF K h0 (fF [h1, h2, h3, z3, z4, z5, z6, z7, z8, (u.1 9), (u.1 10), (u.1 11), (u.1 12), z13, z14]) r.2.1 ++ wTx K h1 a1 r.2.2.1 ++ wFu K h2 a2 r.2.2.2.1 ++ wCu K h3 a3 r.2.2.2.2.1 ++ wNl K (u.1 9) (u.2 4) r.2.2.2.2.2.1 ++ wNl K (u.1 10) (u.2 5) r.2.2.2.2.2.2.1 ++ wGr K (u.1 11) (u.2 6) r.2.2.2.2.2.2.2.1 ++ wGr K (u.1 12) (u.2 7) r.2.2.2.2.2.2.2.2) t) A)) (by decide) (Nat.le_of_ble_eq_true rfl) ?_
  intro p e s m below meth c A ls En hEx hNS hsz hA hP hD hE hS hl
  have C : ((dc_C p s m (([.ref h0] : List Value).toArray) meth c cF_read 4 (Option.some Jvm.ClassFile.FieldType.int) yF_read ∧ cf_E D K A s s.heap ∧ ∀ q, s.heap.size ≤ q → A q) ∧ (∀ x ∈ c.exceptionTable.toList, False) ∧ l.stackTraces = false) := ⟨⟨En, hE, hA⟩, hEx, hl9⟩
  refine W_to (fun t9 h9 => ?_) (bF_read_0 C o0 o1 o2 o3 o4 o5 o6 o7 r h hP hD hS hl)
  rcases h9 with h9 | h9
  · exact h9.2
  · exact absurd h0c h9.1
set_option maxRecDepth 100000 in
theorem zxF_read (l : Launch) (hl9 : l.stackTraces = false) (D : va_G) (K : Nat → ClassId) (sz : Nat) (h0 : Nat) (h1 : Nat) (a1 : Nat → Nat) (h2 : Nat) (a2 : Nat → Nat) (h3 : Nat) (a3 : Nat → Nat) (h4 : Nat) (a4 : Nat → Nat) (h5 : Nat) (a5 : Nat → Nat) (h6 : Nat) (a6 : Nat → Nat) (h7 : Nat) (a7 : Nat → Nat) (z3 : Nat) (z4 : Nat) (z5 : Nat) (z6 : Nat) (z7 : Nat) (z8 : Nat) (z13 : Nat) (z14 : Nat) (o0 : cf_O) (o1 : cf_O) (o2 : cf_O) (o3 : cf_O) (o4 : cf_O) (o5 : cf_O) (o6 : cf_O) (o7 : cf_O) (r : Int32 × cf_O × cf_O × cf_O × cf_O × cf_O × cf_O × cf_O × cf_O) (h : fF_read o0 o1 o2 o3 o4 o5 o6 o7 = some r) (h0c : ¬ (r.2.1.1 30) = 0) : xt_MetG l yF_read (Cond.code yF_read cF_read 4 (Option.some Jvm.ClassFile.FieldType.int) :: cfB) ({ frames := 38, cells := (0 + xc (r.2.1.1 30)), slots := (0 + 6 * xc (r.2.1.1 30)), locals := 956 }) (va_Pc [.ref h0] (cf_Pre D K sz (wF K h0 (fF [h1, h2, h3, z3, z4, z5, z6, z7, z8, h4, h5, h6, h7, z13, z14]) o0 ++ wTx K h1 a1 o1 ++ wFu K h2 a2 o2 ++ wCu K h3 a3 o3 ++ wNl K h4 a4 o4 ++ wNl K h5 a5 o5 ++ wGr K h6 a6 o6 ++ wGr K h7 a7 o7))) (xE (r.2.1.1 30)) D (fun (u : uF) => wF K h0 (fF [h1, h2, h3, z3, z4, z5, z6, z7, z8, (u.1 9), (u.1 10), (u.1 11), (u.1 12), z13, z14]) r.2.1 ++ wTx K h1 a1 r.2.2.1 ++ wFu K h2 a2 r.2.2.2.1 ++ wCu K h3 a3 r.2.2.2.2.1 ++ wNl K (u.1 9) (u.2 4) r.2.2.2.2.2.1 ++ wNl K (u.1 10) (u.2 5) r.2.2.2.2.2.2.1 ++ wGr K (u.1 11) (u.2 6) r.2.2.2.2.2.2.2.1 ++ wGr K (u.1 12) (u.2 7) r.2.2.2.2.2.2.2.2) (va_A (wF K h0 (fF [h1, h2, h3, z3, z4, z5, z6, z7, z8, h4, h5, h6, h7, z13, z14]) o0 ++ wTx K h1 a1 o1 ++ wFu K h2 a2 o2 ++ wCu K h3 a3 o3 ++ wNl K h4 a4 o4 ++ wNl K h5 a5 o5 ++ wGr K h6 a6 o6 ++ wGr K h7 a7 o7) sz) (0 + xc (r.2.1.1 30)) (0 + 6 * xc (r.2.1.1 30)) := by
  refine xt_ofWG (y := yF_read) (As := [.ref h0]) (WS := wF K h0 (fF [h1, h2, h3, z3, z4, z5, z6, z7, z8, h4, h5, h6, h7, z13, z14]) o0 ++ wTx K h1 a1 o1 ++ wFu K h2 a2 o2 ++ wCu K h3 a3 o3 ++ wNl K h4 a4 o4 ++ wNl K h5 a5 o5 ++ wGr K h6 a6 o6 ++ wGr K h7 a7 o7) (maxL := 4) (by decide) (Nat.le_of_ble_eq_true rfl) ?_
  intro p e s m below meth c A ls En hEx hNS hsz hA hP hD hE hS hl
  have C : ((dc_C p s m (([.ref h0] : List Value).toArray) meth c cF_read 4 (Option.some Jvm.ClassFile.FieldType.int) yF_read ∧ cf_E D K A s s.heap ∧ ∀ q, s.heap.size ≤ q → A q) ∧ (∀ x ∈ c.exceptionTable.toList, False) ∧ l.stackTraces = false) := ⟨⟨En, hE, hA⟩, hEx, hl9⟩
  refine W_to (fun t9 h9 => ?_) (bF_read_0 C o0 o1 o2 o3 o4 o5 o6 o7 r h hP hD hS hl)
  rcases h9 with h9 | h9
  · exact absurd h9.1 h0c
  · exact h9.2
set_option maxHeartbeats 4000000 in
set_option maxRecDepth 100000 in
theorem bF_line_0 {p : Program} {l : Launch} {e : Env} {s : State} {m : MethodId} {below : List Frame} {meth : Method} {c : Code} {A : Nat → Prop} {D : va_G} {K : Nat → ClassId} {h0 : Nat} {AR : Array Value} (C : ((dc_C p s m AR meth c cF_line 1 (Option.some Jvm.ClassFile.FieldType.int) yF_line ∧ cf_E D K A s s.heap ∧ ∀ q, s.heap.size ≤ q → A q) ∧ (∀ x ∈ c.exceptionTable.toList, False) ∧ l.stackTraces = false)) (o0 : cf_O) (r : Int32 × cf_O) (h : fF_line_0 o0 = some r) {z0 z1 z2 z3 z4 z5 z6 z7 z8 z9 z10 z11 z12 z13 z14 : Nat} {H : Heap} {locs : List Loc} {ls : Array Slot} (hP : va_P D vwCl (wF K h0 (fF [z0, z1, z2, z3, z4, z5, z6, z7, z8, z9, z10, z11, z12, z13, z14]) o0) H) (hD : va_D A (wF K h0 (fF [z0, z1, z2, z3, z4, z5, z6, z7, z8, z9, z10, z11, z12, z13, z14]) o0)) (hS : va_S A s.heap H locs) (hl : lv_has ls 1 [(0, .ref h0)]) : W p l e ({ frames := 0, cells := (0 + xc (r.2.1 30)), slots := (0 + 6 * xc (r.2.1 30)), locals := 0 }) s m AR below meth c H locs 0 0 (xq below (r.2.1 30) (va_Qi (fun (x : Int32) (_ : uF) => x = r.1) (fun (u : uF) t => cf_At D A (wF K h0 (fF [z0, z1, z2, z3, z4, z5, z6, z7, z8, z9, z10, z11, z12, z13, z14]) r.2) t) A) D (fun (u : uF) => wF K h0 (fF [z0, z1, z2, z3, z4, z5, z6, z7, z8, z9, z10, z11, z12, z13, z14]) r.2) A AR s (0 + xc (r.2.1 30)) (0 + 6 * xc (r.2.1 30))) (F0 m 0 ls []) := by
  have hEx := C.2.1
  have hl9 := C.2.2
  obtain ⟨⟨hx, hb, hr, hts, hown, hlocks, hin, hml⟩, hE, hA⟩ := id C.1
  have hK := hE.k
  refine lv_aload_n hx hb dF_line_0 rfl (lv_at hl 0 rfl) ?_
  refine va_get (D := D) (ci := 0) (v := .int (o0.1 15)) (C := RF) (T := TF) (N := 19) hx hb hts inF hown hK hP 0 rfl rfl 15 (by decide) (hts _ wv_676) (fun _ h9 => h9) rfl dF_line_1 ?_
  obtain rfl := Option.some.inj h
  exact dc_iretF ((fF [z0, z1, z2, z3, z4, z5, z6, z7, z8, z9, z10, z11, z12, z13, z14]), (vF [(fun _ => 0)])) rfl hx hb hr hlocks rfl (hP.sub [0] rfl) (hD.sub [0] (by decide +kernel) rfl) hS (Nat.zero_le _) (Nat.zero_le _) dF_line_4
set_option maxRecDepth 100000 in
theorem mF_line (l : Launch) (hl9 : l.stackTraces = false) (D : va_G) (K : Nat → ClassId) (sz : Nat) (h0 : Nat) (z0 : Nat) (z1 : Nat) (z2 : Nat) (z3 : Nat) (z4 : Nat) (z5 : Nat) (z6 : Nat) (z7 : Nat) (z8 : Nat) (z9 : Nat) (z10 : Nat) (z11 : Nat) (z12 : Nat) (z13 : Nat) (z14 : Nat) (o0 : cf_O) (r : Int32 × cf_O) (h : fF_line o0 = some r) (h0c : (r.2.1 30) = 0) : Met l yF_line (Cond.code yF_line cF_line 1 (Option.some Jvm.ClassFile.FieldType.int) :: cfB) ({ frames := 0, cells := (0 + xc (r.2.1 30)), slots := (0 + 6 * xc (r.2.1 30)), locals := 0 }) (va_Pc [.ref h0] (cf_Pre D K sz (wF K h0 (fF [z0, z1, z2, z3, z4, z5, z6, z7, z8, z9, z10, z11, z12, z13, z14]) o0))) (va_Qi (fun (x : Int32) (_ : uF) => x = r.1) (fun (u : uF) t => cf_At D (va_A (wF K h0 (fF [z0, z1, z2, z3, z4, z5, z6, z7, z8, z9, z10, z11, z12, z13, z14]) o0) sz) (wF K h0 (fF [z0, z1, z2, z3, z4, z5, z6, z7, z8, z9, z10, z11, z12, z13, z14]) r.2) t) (va_A (wF K h0 (fF [z0, z1, z2, z3, z4, z5, z6, z7, z8, z9, z10, z11, z12, z13, z14]) o0) sz)) (0 + xc (r.2.1 30)) (0 + 6 * xc (r.2.1 30)) (va_A (wF K h0 (fF [z0, z1, z2, z3, z4, z5, z6, z7, z8, z9, z10, z11, z12, z13, z14]) o0) sz) := by
  refine cf_ofWF (y := yF_line) (As := [.ref h0]) (WS := wF K h0 (fF [z0, z1, z2, z3, z4, z5, z6, z7, z8, z9, z10, z11, z12, z13, z14]) o0) (maxL := 1) (fun A => (va_Qi (fun (x : Int32) (_ : uF) => x = r.1) (fun (u : uF) t => cf_At D A (wF K h0 (fF [z0, z1, z2, z3, z4, z5, z6, z7, z8, z9, z10, z11, z12, z13, z14]) r.2) t) A)) (by decide) (Nat.le_of_ble_eq_true rfl) ?_
  intro p e s m below meth c A ls En hEx hNS hsz hA hP hD hE hS hl
  have C : ((dc_C p s m (([.ref h0] : List Value).toArray) meth c cF_line 1 (Option.some Jvm.ClassFile.FieldType.int) yF_line ∧ cf_E D K A s s.heap ∧ ∀ q, s.heap.size ≤ q → A q) ∧ (∀ x ∈ c.exceptionTable.toList, False) ∧ l.stackTraces = false) := ⟨⟨En, hE, hA⟩, hEx, hl9⟩
  refine W_to (fun t9 h9 => ?_) (bF_line_0 C o0 r h hP hD hS hl)
  rcases h9 with h9 | h9
  · exact h9.2
  · exact absurd h0c h9.1
set_option maxRecDepth 100000 in
theorem zxF_line (l : Launch) (hl9 : l.stackTraces = false) (D : va_G) (K : Nat → ClassId) (sz : Nat) (h0 : Nat) (z0 : Nat) (z1 : Nat) (z2 : Nat) (z3 : Nat) (z4 : Nat) (z5 : Nat) (z6 : Nat) (z7 : Nat) (z8 : Nat) (z9 : Nat) (z10 : Nat) (z11 : Nat) (z12 : Nat) (z13 : Nat) (z14 : Nat) (o0 : cf_O) (r : Int32 × cf_O) (h : fF_line o0 = some r) (h0c : ¬ (r.2.1 30) = 0) : xt_MetG l yF_line (Cond.code yF_line cF_line 1 (Option.some Jvm.ClassFile.FieldType.int) :: cfB) ({ frames := 0, cells := (0 + xc (r.2.1 30)), slots := (0 + 6 * xc (r.2.1 30)), locals := 0 }) (va_Pc [.ref h0] (cf_Pre D K sz (wF K h0 (fF [z0, z1, z2, z3, z4, z5, z6, z7, z8, z9, z10, z11, z12, z13, z14]) o0))) (xE (r.2.1 30)) D (fun (u : uF) => wF K h0 (fF [z0, z1, z2, z3, z4, z5, z6, z7, z8, z9, z10, z11, z12, z13, z14]) r.2) (va_A (wF K h0 (fF [z0, z1, z2, z3, z4, z5, z6, z7, z8, z9, z10, z11, z12, z13, z14]) o0) sz) (0 + xc (r.2.1 30)) (0 + 6 * xc (r.2.1 30)) := by
  refine xt_ofWG (y := yF_line) (As := [.ref h0]) (WS := wF K h0 (fF [z0, z1, z2, z3, z4, z5, z6, z7, z8, z9, z10, z11, z12, z13, z14]) o0) (maxL := 1) (by decide) (Nat.le_of_ble_eq_true rfl) ?_
  intro p e s m below meth c A ls En hEx hNS hsz hA hP hD hE hS hl
  have C : ((dc_C p s m (([.ref h0] : List Value).toArray) meth c cF_line 1 (Option.some Jvm.ClassFile.FieldType.int) yF_line ∧ cf_E D K A s s.heap ∧ ∀ q, s.heap.size ≤ q → A q) ∧ (∀ x ∈ c.exceptionTable.toList, False) ∧ l.stackTraces = false) := ⟨⟨En, hE, hA⟩, hEx, hl9⟩
  refine W_to (fun t9 h9 => ?_) (bF_line_0 C o0 r h hP hD hS hl)
  rcases h9 with h9 | h9
  · exact absurd h9.1 h0c
  · exact h9.2
set_option maxHeartbeats 4000000 in
set_option maxRecDepth 100000 in
theorem bF_graph_71 {p : Program} {l : Launch} {e : Env} {s : State} {m : MethodId} {below : List Frame} {meth : Method} {c : Code} {A : Nat → Prop} {D : va_G} {K : Nat → ClassId} {h0 : Nat} {AR : Array Value} (C : ((dc_C p s m AR meth c cF_graph 2 (Option.some Jvm.ClassFile.FieldType.int) yF_graph ∧ cf_E D K A s s.heap ∧ ∀ q, s.heap.size ≤ q → A q) ∧ (∀ x ∈ c.exceptionTable.toList, False) ∧ l.stackTraces = false)) (s0 : Int32) (o0 : cf_O) (o1 : cf_O) (r : Int32 × cf_O) (h : fF_graph_71 s0 o0 o1 = some r) {h1 z0 z1 z2 z3 z4 z5 z6 z7 z8 z9 z10 z12 z13 z14 : Nat} {a1 : Nat → Nat} {H : Heap} {locs : List Loc} {ls : Array Slot} (hP : va_P D vwCl (wF K h0 (fF [z0, z1, z2, z3, z4, z5, z6, z7, z8, z9, z10, h1, z12, z13, z14]) o0 ++ wGr K h1 a1 o1) H) (hD : va_D A (wF K h0 (fF [z0, z1, z2, z3, z4, z5, z6, z7, z8, z9, z10, h1, z12, z13, z14]) o0 ++ wGr K h1 a1 o1)) (hS : va_S A s.heap H locs) (hl : lv_has ls 2 []) : W p l e ({ frames := 7, cells := (0 + xc (r.2.1 30)), slots := (0 + 6 * xc (r.2.1 30)), locals := 120 }) s m AR below meth c H locs 0 0 (xq below (r.2.1 30) (va_Qi (fun (x : Int32) (_ : uF) => x = r.1) (fun (u : uF) t => cf_At D A (wF K h0 (fF [z0, z1, z2, z3, z4, z5, z6, z7, z8, z9, z10, h1, z12, z13, z14]) r.2 ++ wGr K h1 a1 o1) t) A) D (fun (u : uF) => wF K h0 (fF [z0, z1, z2, z3, z4, z5, z6, z7, z8, z9, z10, h1, z12, z13, z14]) r.2 ++ wGr K h1 a1 o1) A AR s (0 + xc (r.2.1 30)) (0 + 6 * xc (r.2.1 30))) (F0 m 71 ls [.int s0]) := by
  have hEx := C.2.1
  have hl9 := C.2.2
  obtain ⟨⟨hx, hb, hr, hts, hown, hlocks, hin, hml⟩, hE, hA⟩ := id C.1
  have hK := hE.k
  obtain rfl := Option.some.inj h
  exact dc_iretF ((fF [z0, z1, z2, z3, z4, z5, z6, z7, z8, z9, z10, h1, z12, z13, z14]), (vF [(fun _ => 0), a1])) rfl hx hb hr hlocks rfl (hP.sub [0, 1, 2, 3, 4, 5, 6, 7] rfl) (hD.sub [0, 1, 2, 3, 4, 5, 6, 7] (by decide +kernel) rfl) hS (Nat.zero_le _) (Nat.zero_le _) dF_graph_71
set_option maxHeartbeats 4000000 in
set_option maxRecDepth 100000 in
theorem bF_graph_7 {p : Program} {l : Launch} {e : Env} {s : State} {m : MethodId} {below : List Frame} {meth : Method} {c : Code} {A : Nat → Prop} {D : va_G} {K : Nat → ClassId} {h0 : Nat} {AR : Array Value} (C : ((dc_C p s m AR meth c cF_graph 2 (Option.some Jvm.ClassFile.FieldType.int) yF_graph ∧ cf_E D K A s s.heap ∧ ∀ q, s.heap.size ≤ q → A q) ∧ (∀ x ∈ c.exceptionTable.toList, False) ∧ l.stackTraces = false)) (v1 : Int32) (o0 : cf_O) (o1 : cf_O) (r : Int32 × cf_O) (h : fF_graph_7 v1 o0 o1 = some r) {h1 z0 z1 z2 z3 z4 z5 z6 z7 z8 z9 z10 z12 z13 z14 : Nat} {a1 : Nat → Nat} {H : Heap} {locs : List Loc} {ls : Array Slot} (hP : va_P D vwCl (wF K h0 (fF [z0, z1, z2, z3, z4, z5, z6, z7, z8, z9, z10, h1, z12, z13, z14]) o0 ++ wGr K h1 a1 o1) H) (hD : va_D A (wF K h0 (fF [z0, z1, z2, z3, z4, z5, z6, z7, z8, z9, z10, h1, z12, z13, z14]) o0 ++ wGr K h1 a1 o1)) (hS : va_S A s.heap H locs) (hl : lv_has ls 2 [(0, .ref h0), (1, .int v1)]) : W p l e ({ frames := 7, cells := (0 + xc (r.2.1 30)), slots := (0 + 6 * xc (r.2.1 30)), locals := 120 }) s m AR below meth c H locs 0 0 (xq below (r.2.1 30) (va_Qi (fun (x : Int32) (_ : uF) => x = r.1) (fun (u : uF) t => cf_At D A (wF K h0 (fF [z0, z1, z2, z3, z4, z5, z6, z7, z8, z9, z10, h1, z12, z13, z14]) r.2 ++ wGr K h1 a1 o1) t) A) D (fun (u : uF) => wF K h0 (fF [z0, z1, z2, z3, z4, z5, z6, z7, z8, z9, z10, h1, z12, z13, z14]) r.2 ++ wGr K h1 a1 o1) A AR s (0 + xc (r.2.1 30)) (0 + 6 * xc (r.2.1 30))) (F0 m 7 ls []) := by
  have hEx := C.2.1
  have hl9 := C.2.2
  obtain ⟨⟨hx, hb, hr, hts, hown, hlocks, hin, hml⟩, hE, hA⟩ := id C.1
  have hK := hE.k
  refine lv_iload_n hx hb dF_graph_7 rfl (lv_at hl 1 rfl) ?_
  refine op_sw (x := v1) (k := 0) (fun c_1 => ?_) (fun c_1 => ?_)
  · have h := op_t c_1 h
    rw [c_1]
    refine lv_tableIn hx hb dF_graph_8 (by decide) (by decide) (off := 32) (tgt := 40) rfl (by decide) ?_
    refine lv_aload_n hx hb dF_graph_40 rfl (lv_at hl 0 rfl) ?_
    refine va_get (D := D) (ci := 0) (v := .ref h1) (C := RF) (T := TF) (N := 19) hx hb hts inF hown hK hP 0 rfl rfl 11 (by decide) (hts _ wv_672) (fun _ h9 => h9) rfl dF_graph_41 ?_
    refine va_get (D := D) (ci := 3) (v := .int (o1.1 0)) (C := RGr) (T := TGr) (N := 10) hx hb hts inGr hown hK hP 1 rfl rfl 0 (by decide) (hts _ wv_550) (fun _ h9 => h9) rfl dF_graph_44 ?_
    obtain rfl := Option.some.inj h
    exact dc_iretF ((fF [z0, z1, z2, z3, z4, z5, z6, z7, z8, z9, z10, h1, z12, z13, z14]), (vF [(fun _ => 0), a1])) rfl hx hb hr hlocks rfl (hP.sub [0, 1, 2, 3, 4, 5, 6, 7] rfl) (hD.sub [0, 1, 2, 3, 4, 5, 6, 7] (by decide +kernel) rfl) hS (Nat.zero_le _) (Nat.zero_le _) dF_graph_47
  · have h := op_f c_1 h
    refine op_sw (x := v1) (k := 1) (fun c_2 => ?_) (fun c_2 => ?_)
    · have h := op_t c_2 h
      rw [c_2]
      refine lv_tableIn hx hb dF_graph_8 (by decide) (by decide) (off := 40) (tgt := 48) rfl (by decide) ?_
      refine lv_aload_n hx hb dF_graph_48 rfl (lv_at hl 0 rfl) ?_
      refine va_get (D := D) (ci := 0) (v := .ref h1) (C := RF) (T := TF) (N := 19) hx hb hts inF hown hK hP 0 rfl rfl 11 (by decide) (hts _ wv_672) (fun _ h9 => h9) rfl dF_graph_49 ?_
      refine va_get (D := D) (ci := 3) (v := .int (o1.1 1)) (C := RGr) (T := TGr) (N := 10) hx hb hts inGr hown hK hP 1 rfl rfl 1 (by decide) (hts _ wv_555) (fun _ h9 => h9) rfl dF_graph_52 ?_
      obtain rfl := Option.some.inj h
      exact dc_iretF ((fF [z0, z1, z2, z3, z4, z5, z6, z7, z8, z9, z10, h1, z12, z13, z14]), (vF [(fun _ => 0), a1])) rfl hx hb hr hlocks rfl (hP.sub [0, 1, 2, 3, 4, 5, 6, 7] rfl) (hD.sub [0, 1, 2, 3, 4, 5, 6, 7] (by decide +kernel) rfl) hS (Nat.zero_le _) (Nat.zero_le _) dF_graph_55
    · have h := op_f c_2 h
      refine op_sw (x := v1) (k := 2) (fun c_3 => ?_) (fun c_3 => ?_)
      · have h := op_t c_3 h
        rw [c_3]
        refine lv_tableIn hx hb dF_graph_8 (by decide) (by decide) (off := 48) (tgt := 56) rfl (by decide) ?_
        refine lv_aload_n hx hb dF_graph_56 rfl (lv_at hl 0 rfl) ?_
        refine va_get (D := D) (ci := 0) (v := .ref h1) (C := RF) (T := TF) (N := 19) hx hb hts inF hown hK hP 0 rfl rfl 11 (by decide) (hts _ wv_672) (fun _ h9 => h9) rfl dF_graph_57 ?_
        refine va_get (D := D) (ci := 3) (v := .int (o1.1 2)) (C := RGr) (T := TGr) (N := 10) hx hb hts inGr hown hK hP 1 rfl rfl 2 (by decide) (hts _ wv_557) (fun _ h9 => h9) rfl dF_graph_60 ?_
        obtain rfl := Option.some.inj h
        exact dc_iretF ((fF [z0, z1, z2, z3, z4, z5, z6, z7, z8, z9, z10, h1, z12, z13, z14]), (vF [(fun _ => 0), a1])) rfl hx hb hr hlocks rfl (hP.sub [0, 1, 2, 3, 4, 5, 6, 7] rfl) (hD.sub [0, 1, 2, 3, 4, 5, 6, 7] (by decide +kernel) rfl) hS (Nat.zero_le _) (Nat.zero_le _) dF_graph_63
      · have h := op_f c_3 h
        refine op_sw (x := v1) (k := 3) (fun c_4 => ?_) (fun c_4 => ?_)
        · have h := op_t c_4 h
          rw [c_4]
          refine lv_tableIn hx hb dF_graph_8 (by decide) (by decide) (off := 56) (tgt := 64) rfl (by decide) ?_
          refine lv_aload_n hx hb dF_graph_64 rfl (lv_at hl 0 rfl) ?_
          refine va_get (D := D) (ci := 0) (v := .ref h1) (C := RF) (T := TF) (N := 19) hx hb hts inF hown hK hP 0 rfl rfl 11 (by decide) (hts _ wv_672) (fun _ h9 => h9) rfl dF_graph_65 ?_
          obtain ⟨q_5, hq_5, h⟩ := op_b h
          refine cf_calli (wc := wGr K h1 a1 o1) (wr := wF K h0 (fF [z0, z1, z2, z3, z4, z5, z6, z7, z8, z9, z10, h1, z12, z13, z14]) o0) (va_runV (As := []) (rest := []) ⟨hx, hb, hml, hown, hts⟩ (mGr_greatestLevel l D K _ h1 a1 o1 _ hq_5) (cwV 0 hts (cf_GV wv_1115 wv_1116 wv_1117 wv_171 wv_1118) rfl rfl rfl (by decide +kernel) ⟨Nat.le_of_ble_eq_true rfl, Nat.le_of_ble_eq_true rfl⟩) (cf_preV (wc := wGr K h1 a1 o1) hE hP hD hS hA rfl 1 rfl [1, 2, 3, 4, 5, 6, 7] rfl (by decide +kernel)) rfl rfl hl.1 rfl (lv_room (Nat.le_of_ble_eq_true rfl)) dF_graph_68 ⟨Nat.zero_le _, Nat.zero_le _⟩) hP hD hS hA [1, 2, 3, 4, 5, 6, 7] [0] rfl rfl (by decide +kernel) (by decide +kernel) (fun r_6 _ H locs hw_7 hP hD hS => ?_)
          subst r_6
          have hP : va_P D vwCl (wF K h0 (fF [z0, z1, z2, z3, z4, z5, z6, z7, z8, z9, z10, h1, z12, z13, z14]) o0 ++ wGr K h1 a1 o1) H := hP.sub [0, 1, 2, 3, 4, 5, 6, 7] rfl
          have hD : va_D A (wF K h0 (fF [z0, z1, z2, z3, z4, z5, z6, z7, z8, z9, z10, h1, z12, z13, z14]) o0 ++ wGr K h1 a1 o1) := hD.sub [0, 1, 2, 3, 4, 5, 6, 7] (by decide +kernel) rfl
          exact bF_graph_71 C _ _ _ _ h hP hD hS (lv_sub hl [] rfl)
        · have h := op_f c_4 h
          refine lv_tableOut hx hb dF_graph_8 (op_swo (x := v1) (lo := 0) (hi := 3) [(0 : Int32), (1 : Int32), (2 : Int32), (3 : Int32)] rfl (by simp only [List.mem_cons, List.not_mem_nil, or_false]; rintro y (rfl | rfl | rfl | rfl) <;> assumption)) (tgt := 72) (by decide) ?_
          obtain rfl := Option.some.inj h
          exact xt_throwF (K := K) (E := "java/lang/IllegalArgumentException") (own := "CellForge") (names := ["java/lang/RuntimeException", "java/lang/Exception"]) (ik := 106) (ic := 108) ((fF [z0, z1, z2, z3, z4, z5, z6, z7, z8, z9, z10, h1, z12, z13, z14]), (vF [(fun _ => 0), a1])) (show (1 : Int32) ≠ 0 by decide) (show xE 1 = "java/lang/IllegalArgumentException" from rfl) hx hb hl9 hown (by decide +kernel) (by decide +kernel) wv_865 wv_177 hts (fun s9 hts9 hE9 => xt_atoms hts9 hE9 (by decide +kernel)) hE (hP.sub [0, 1, 2, 3, 4, 5, 6, 7] rfl) (hD.sub [0, 1, 2, 3, 4, 5, 6, 7] (by decide +kernel) rfl) hS hA (hl.1.trans hml.symm) dF_graph_72 dF_graph_75 dF_graph_76 dF_graph_79 hEx hlocks (Nat.le_of_ble_eq_true rfl) (Nat.le_of_ble_eq_true rfl) (xc_c (show (1 : Int32) ≠ 0 by decide)) (xc_s (show (1 : Int32) ≠ 0 by decide)) (xc_c (show (1 : Int32) ≠ 0 by decide)) (xc_s (show (1 : Int32) ≠ 0 by decide))
set_option maxHeartbeats 4000000 in
set_option maxRecDepth 100000 in
theorem bF_graph_0 {p : Program} {l : Launch} {e : Env} {s : State} {m : MethodId} {below : List Frame} {meth : Method} {c : Code} {A : Nat → Prop} {D : va_G} {K : Nat → ClassId} {h0 : Nat} {AR : Array Value} (C : ((dc_C p s m AR meth c cF_graph 2 (Option.some Jvm.ClassFile.FieldType.int) yF_graph ∧ cf_E D K A s s.heap ∧ ∀ q, s.heap.size ≤ q → A q) ∧ (∀ x ∈ c.exceptionTable.toList, False) ∧ l.stackTraces = false)) (v1 : Int32) (o0 : cf_O) (o1 : cf_O) (r : Int32 × cf_O) (h : fF_graph_0 v1 o0 o1 = some r) {h1 z0 z1 z2 z3 z4 z5 z6 z7 z8 z9 z10 z12 z13 z14 : Nat} {a1 : Nat → Nat} {H : Heap} {locs : List Loc} {ls : Array Slot} (hP : va_P D vwCl (wF K h0 (fF [z0, z1, z2, z3, z4, z5, z6, z7, z8, z9, z10, h1, z12, z13, z14]) o0 ++ wGr K h1 a1 o1) H) (hD : va_D A (wF K h0 (fF [z0, z1, z2, z3, z4, z5, z6, z7, z8, z9, z10, h1, z12, z13, z14]) o0 ++ wGr K h1 a1 o1)) (hS : va_S A s.heap H locs) (hl : lv_has ls 2 [(0, .ref h0), (1, .int v1)]) : W p l e ({ frames := 7, cells := (0 + xc (r.2.1 30)), slots := (0 + 6 * xc (r.2.1 30)), locals := 120 }) s m AR below meth c H locs 0 0 (xq below (r.2.1 30) (va_Qi (fun (x : Int32) (_ : uF) => x = r.1) (fun (u : uF) t => cf_At D A (wF K h0 (fF [z0, z1, z2, z3, z4, z5, z6, z7, z8, z9, z10, h1, z12, z13, z14]) r.2 ++ wGr K h1 a1 o1) t) A) D (fun (u : uF) => wF K h0 (fF [z0, z1, z2, z3, z4, z5, z6, z7, z8, z9, z10, h1, z12, z13, z14]) r.2 ++ wGr K h1 a1 o1) A AR s (0 + xc (r.2.1 30)) (0 + 6 * xc (r.2.1 30))) (F0 m 0 ls []) := by
  have hEx := C.2.1
  have hl9 := C.2.2
  obtain ⟨⟨hx, hb, hr, hts, hown, hlocks, hin, hml⟩, hE, hA⟩ := id C.1
  have hK := hE.k
  refine lv_aload_n hx hb dF_graph_0 rfl (lv_at hl 0 rfl) ?_
  refine va_get (D := D) (ci := 0) (v := .int (o0.1 16)) (C := RF) (T := TF) (N := 19) hx hb hts inF hown hK hP 0 rfl rfl 16 (by decide) (hts _ wv_677) (fun _ h9 => h9) rfl dF_graph_1 ?_
  rcases Classical.em ((o0.1 16) = 0) with c_1 | c_1
  · have h := op_t c_1 h
    obtain rfl := Option.some.inj h
    rw [c_1]
    refine xt_callS (wc := []) (wr := wF K h0 (fF [z0, z1, z2, z3, z4, z5, z6, z7, z8, z9, z10, h1, z12, z13, z14]) o0 ++ wGr K h1 a1 o1) (As := [.int 0]) (rest := []) ⟨hx, hb, hml, hown, hts⟩ (xF_needState l hl9 D K _) (va_cwS 1 hts (cf_GS wv_1097 wv_1098 wv_157 wv_1099) rfl rfl rfl (by decide +kernel) ⟨Nat.le_of_ble_eq_true rfl, Nat.le_of_ble_eq_true rfl⟩) (cf_preS (wc := []) hE hP hD hS hA [] rfl (by decide +kernel)) rfl hl.1 (lv_room (Nat.le_of_ble_eq_true rfl)) dF_graph_4 ⟨(xc_c (show (2 : Int32) ≠ 0 by decide)), (xc_s (show (2 : Int32) ≠ 0 by decide))⟩ hP hD hS hA [] [0, 1, 2, 3, 4, 5, 6, 7] rfl rfl (by decide +kernel) (by decide +kernel) (fun q9 ce H locs hP hD hS hce hcv hcl => ?_)
    exact xt_outF ((fF [z0, z1, z2, z3, z4, z5, z6, z7, z8, z9, z10, h1, z12, z13, z14]), (vF [(fun _ => 0), a1])) (show (2 : Int32) ≠ 0 by decide) (show xE 2 = "java/lang/IllegalStateException" from rfl) hEx hlocks hce hcv hcl (hP.sub [0, 1, 2, 3, 4, 5, 6, 7] rfl) (hD.sub [0, 1, 2, 3, 4, 5, 6, 7] (by decide +kernel) rfl) hS (xc_c (show (2 : Int32) ≠ 0 by decide)) (xc_s (show (2 : Int32) ≠ 0 by decide))
  · have h := op_f c_1 h
    refine cf_pcallv (va_runS (As := [.int (o0.1 16)]) (rest := []) ⟨hx, hb, hml, hown, hts⟩ (kn_needState l (o0.1 16) c_1) (va_cwS 1 hts (cf_GS wv_1097 wv_1098 wv_157 wv_1099) rfl rfl rfl (by decide +kernel) ⟨Nat.le_of_ble_eq_true rfl, Nat.le_of_ble_eq_true rfl⟩) preEq rfl rfl hl.1 rfl (lv_room (Nat.le_of_ble_eq_true rfl)) dF_graph_4 ⟨Nat.zero_le _, Nat.zero_le _⟩) ?_
    exact bF_graph_7 C _ _ _ _ h hP hD hS (lv_sub hl [0, 1] rfl)
set_option maxRecDepth 100000 in
theorem mF_graph (l : Launch) (hl9 : l.stackTraces = false) (D : va_G) (K : Nat → ClassId) (sz : Nat) (v1 : Int32) (h0 : Nat) (h1 : Nat) (a1 : Nat → Nat) (z0 : Nat) (z1 : Nat) (z2 : Nat) (z3 : Nat) (z4 : Nat) (z5 : Nat) (z6 : Nat) (z7 : Nat) (z8 : Nat) (z9 : Nat) (z10 : Nat) (z12 : Nat) (z13 : Nat) (z14 : Nat) (o0 : cf_O) (o1 : cf_O) (r : Int32 × cf_O) (h : fF_graph v1 o0 o1 = some r) (h0c : (r.2.1 30) = 0) : Met l yF_graph (Cond.code yF_graph cF_graph 2 (Option.some Jvm.ClassFile.FieldType.int) :: cfB) ({ frames := 7, cells := (0 + xc (r.2.1 30)), slots := (0 + 6 * xc (r.2.1 30)), locals := 120 }) (va_Pc [.ref h0, .int v1] (cf_Pre D K sz (wF K h0 (fF [z0, z1, z2, z3, z4, z5, z6, z7, z8, z9, z10, h1, z12, z13, z14]) o0 ++ wGr K h1 a1 o1))) (va_Qi (fun (x : Int32) (_ : uF) => x = r.1) (fun (u : uF) t => cf_At D (va_A (wF K h0 (fF [z0, z1, z2, z3, z4, z5, z6, z7, z8, z9, z10, h1, z12, z13, z14]) o0 ++ wGr K h1 a1 o1) sz) (wF K h0 (fF [z0, z1, z2, z3, z4, z5, z6, z7, z8, z9, z10, h1, z12, z13, z14]) r.2 ++ wGr K h1 a1 o1) t) (va_A (wF K h0 (fF [z0, z1, z2, z3, z4, z5, z6, z7, z8, z9, z10, h1, z12, z13, z14]) o0 ++ wGr K h1 a1 o1) sz)) (0 + xc (r.2.1 30)) (0 + 6 * xc (r.2.1 30)) (va_A (wF K h0 (fF [z0, z1, z2, z3, z4, z5, z6, z7, z8, z9, z10, h1, z12, z13, z14]) o0 ++ wGr K h1 a1 o1) sz) := by
  refine cf_ofWF (y := yF_graph) (As := [.ref h0, .int v1]) (WS := wF K h0 (fF [z0, z1, z2, z3, z4, z5, z6, z7, z8, z9, z10, h1, z12, z13, z14]) o0 ++ wGr K h1 a1 o1) (maxL := 2) (fun A => (va_Qi (fun (x : Int32) (_ : uF) => x = r.1) (fun (u : uF) t => cf_At D A (wF K h0 (fF [z0, z1, z2, z3, z4, z5, z6, z7, z8, z9, z10, h1, z12, z13, z14]) r.2 ++ wGr K h1 a1 o1) t) A)) (by decide) (Nat.le_of_ble_eq_true rfl) ?_
  intro p e s m below meth c A ls En hEx hNS hsz hA hP hD hE hS hl
  have C : ((dc_C p s m (([.ref h0, .int v1] : List Value).toArray) meth c cF_graph 2 (Option.some Jvm.ClassFile.FieldType.int) yF_graph ∧ cf_E D K A s s.heap ∧ ∀ q, s.heap.size ≤ q → A q) ∧ (∀ x ∈ c.exceptionTable.toList, False) ∧ l.stackTraces = false) := ⟨⟨En, hE, hA⟩, hEx, hl9⟩
  refine W_to (fun t9 h9 => ?_) (bF_graph_0 C v1 o0 o1 r h hP hD hS hl)
  rcases h9 with h9 | h9
  · exact h9.2
  · exact absurd h0c h9.1
set_option maxRecDepth 100000 in
theorem zxF_graph (l : Launch) (hl9 : l.stackTraces = false) (D : va_G) (K : Nat → ClassId) (sz : Nat) (v1 : Int32) (h0 : Nat) (h1 : Nat) (a1 : Nat → Nat) (z0 : Nat) (z1 : Nat) (z2 : Nat) (z3 : Nat) (z4 : Nat) (z5 : Nat) (z6 : Nat) (z7 : Nat) (z8 : Nat) (z9 : Nat) (z10 : Nat) (z12 : Nat) (z13 : Nat) (z14 : Nat) (o0 : cf_O) (o1 : cf_O) (r : Int32 × cf_O) (h : fF_graph v1 o0 o1 = some r) (h0c : ¬ (r.2.1 30) = 0) : xt_MetG l yF_graph (Cond.code yF_graph cF_graph 2 (Option.some Jvm.ClassFile.FieldType.int) :: cfB) ({ frames := 7, cells := (0 + xc (r.2.1 30)), slots := (0 + 6 * xc (r.2.1 30)), locals := 120 }) (va_Pc [.ref h0, .int v1] (cf_Pre D K sz (wF K h0 (fF [z0, z1, z2, z3, z4, z5, z6, z7, z8, z9, z10, h1, z12, z13, z14]) o0 ++ wGr K h1 a1 o1))) (xE (r.2.1 30)) D (fun (u : uF) => wF K h0 (fF [z0, z1, z2, z3, z4, z5, z6, z7, z8, z9, z10, h1, z12, z13, z14]) r.2 ++ wGr K h1 a1 o1) (va_A (wF K h0 (fF [z0, z1, z2, z3, z4, z5, z6, z7, z8, z9, z10, h1, z12, z13, z14]) o0 ++ wGr K h1 a1 o1) sz) (0 + xc (r.2.1 30)) (0 + 6 * xc (r.2.1 30)) := by
  refine xt_ofWG (y := yF_graph) (As := [.ref h0, .int v1]) (WS := wF K h0 (fF [z0, z1, z2, z3, z4, z5, z6, z7, z8, z9, z10, h1, z12, z13, z14]) o0 ++ wGr K h1 a1 o1) (maxL := 2) (by decide) (Nat.le_of_ble_eq_true rfl) ?_
  intro p e s m below meth c A ls En hEx hNS hsz hA hP hD hE hS hl
  have C : ((dc_C p s m (([.ref h0, .int v1] : List Value).toArray) meth c cF_graph 2 (Option.some Jvm.ClassFile.FieldType.int) yF_graph ∧ cf_E D K A s s.heap ∧ ∀ q, s.heap.size ≤ q → A q) ∧ (∀ x ∈ c.exceptionTable.toList, False) ∧ l.stackTraces = false) := ⟨⟨En, hE, hA⟩, hEx, hl9⟩
  refine W_to (fun t9 h9 => ?_) (bF_graph_0 C v1 o0 o1 r h hP hD hS hl)
  rcases h9 with h9 | h9
  · exact absurd h9.1 h0c
  · exact h9.2
set_option maxHeartbeats 4000000 in
set_option maxRecDepth 100000 in
theorem bF_gate_18 {p : Program} {l : Launch} {e : Env} {s : State} {m : MethodId} {below : List Frame} {meth : Method} {c : Code} {A : Nat → Prop} {D : va_G} {K : Nat → ClassId} {h0 : Nat} {AR : Array Value} (C : ((dc_C p s m AR meth c cF_gate 3 (Option.some Jvm.ClassFile.FieldType.int) yF_gate ∧ cf_E D K A s s.heap ∧ ∀ q, s.heap.size ≤ q → A q) ∧ (∀ x ∈ c.exceptionTable.toList, False) ∧ l.stackTraces = false)) (v1 : Int32) (v2 : Int32) (o0 : cf_O) (o1 : cf_O) (r : Int32 × cf_O) (h : fF_gate_18 v1 v2 o0 o1 = some r) {h1 z0 z1 z2 z3 z4 z5 z6 z7 z8 z9 z10 z12 z13 z14 : Nat} {a1 : Nat → Nat} {H : Heap} {locs : List Loc} {ls : Array Slot} (hP : va_P D vwCl (wF K h0 (fF [z0, z1, z2, z3, z4, z5, z6, z7, z8, z9, z10, h1, z12, z13, z14]) o0 ++ wGr K h1 a1 o1) H) (hD : va_D A (wF K h0 (fF [z0, z1, z2, z3, z4, z5, z6, z7, z8, z9, z10, h1, z12, z13, z14]) o0 ++ wGr K h1 a1 o1)) (hS : va_S A s.heap H locs) (hl : lv_has ls 3 [(0, .ref h0), (1, .int v1), (2, .int v2)]) : W p l e ({ frames := 7, cells := (0 + xc (r.2.1 30)), slots := (0 + 6 * xc (r.2.1 30)), locals := 120 }) s m AR below meth c H locs 0 0 (xq below (r.2.1 30) (va_Qi (fun (x : Int32) (_ : uF) => x = r.1) (fun (u : uF) t => cf_At D A (wF K h0 (fF [z0, z1, z2, z3, z4, z5, z6, z7, z8, z9, z10, h1, z12, z13, z14]) r.2 ++ wGr K h1 a1 o1) t) A) D (fun (u : uF) => wF K h0 (fF [z0, z1, z2, z3, z4, z5, z6, z7, z8, z9, z10, h1, z12, z13, z14]) r.2 ++ wGr K h1 a1 o1) A AR s (0 + xc (r.2.1 30)) (0 + 6 * xc (r.2.1 30))) (F0 m 18 ls []) := by
  have hEx := C.2.1
  have hl9 := C.2.2
  obtain ⟨⟨hx, hb, hr, hts, hown, hlocks, hin, hml⟩, hE, hA⟩ := id C.1
  have hK := hE.k
  refine lv_iload_n hx hb dF_gate_18 rfl (lv_at hl 2 rfl) ?_
  refine op_sw (x := v2) (k := 0) (fun c_1 => ?_) (fun c_1 => ?_)
  · have h := op_t c_1 h
    rw [c_1]
    refine lv_tableIn hx hb dF_gate_19 (by decide) (by decide) (off := 25) (tgt := 44) rfl (by decide) ?_
    refine lv_aload_n hx hb dF_gate_44 rfl (lv_at hl 0 rfl) ?_
    refine va_get (D := D) (ci := 0) (v := .ref h1) (C := RF) (T := TF) (N := 19) hx hb hts inF hown hK hP 0 rfl rfl 11 (by decide) (hts _ wv_672) (fun _ h9 => h9) rfl dF_gate_45 ?_
    refine va_get (D := D) (ci := 3) (v := .ref (a1 4)) (C := RGr) (T := TGr) (N := 10) hx hb hts inGr hown hK hP 1 rfl rfl 4 (by decide) (hts _ wv_564) (fun _ h9 => h9) rfl dF_gate_48 ?_
    refine lv_iload_n hx hb dF_gate_51 rfl (lv_at hl 1 rfl) ?_
    obtain ⟨hi_2, h⟩ := op_n h
    refine va_iald (D := D) hx hb hK hP 2 0 rfl rfl hi_2 dF_gate_52 ?_
    refine lv_topi (fun x_3 ex_3 => ?_)
    have h := op_ks ex_3 h
    obtain rfl := Option.some.inj h
    exact dc_iretF ((fF [z0, z1, z2, z3, z4, z5, z6, z7, z8, z9, z10, h1, z12, z13, z14]), (vF [(fun _ => 0), a1])) rfl hx hb hr hlocks rfl (hP.sub [0, 1, 2, 3, 4, 5, 6, 7] rfl) (hD.sub [0, 1, 2, 3, 4, 5, 6, 7] (by decide +kernel) rfl) hS (Nat.zero_le _) (Nat.zero_le _) dF_gate_53
  · have h := op_f c_1 h
    refine op_sw (x := v2) (k := 1) (fun c_4 => ?_) (fun c_4 => ?_)
    · have h := op_t c_4 h
      rw [c_4]
      refine lv_tableIn hx hb dF_gate_19 (by decide) (by decide) (off := 35) (tgt := 54) rfl (by decide) ?_
      refine lv_aload_n hx hb dF_gate_54 rfl (lv_at hl 0 rfl) ?_
      refine va_get (D := D) (ci := 0) (v := .ref h1) (C := RF) (T := TF) (N := 19) hx hb hts inF hown hK hP 0 rfl rfl 11 (by decide) (hts _ wv_672) (fun _ h9 => h9) rfl dF_gate_55 ?_
      refine va_get (D := D) (ci := 3) (v := .ref (a1 5)) (C := RGr) (T := TGr) (N := 10) hx hb hts inGr hown hK hP 1 rfl rfl 5 (by decide) (hts _ wv_570) (fun _ h9 => h9) rfl dF_gate_58 ?_
      refine lv_iload_n hx hb dF_gate_61 rfl (lv_at hl 1 rfl) ?_
      obtain ⟨hi_5, h⟩ := op_n h
      refine va_iald (D := D) hx hb hK hP 3 0 rfl rfl hi_5 dF_gate_62 ?_
      refine lv_topi (fun x_6 ex_6 => ?_)
      have h := op_ks ex_6 h
      obtain rfl := Option.some.inj h
      exact dc_iretF ((fF [z0, z1, z2, z3, z4, z5, z6, z7, z8, z9, z10, h1, z12, z13, z14]), (vF [(fun _ => 0), a1])) rfl hx hb hr hlocks rfl (hP.sub [0, 1, 2, 3, 4, 5, 6, 7] rfl) (hD.sub [0, 1, 2, 3, 4, 5, 6, 7] (by decide +kernel) rfl) hS (Nat.zero_le _) (Nat.zero_le _) dF_gate_63
    · have h := op_f c_4 h
      refine op_sw (x := v2) (k := 2) (fun c_7 => ?_) (fun c_7 => ?_)
      · have h := op_t c_7 h
        rw [c_7]
        refine lv_tableIn hx hb dF_gate_19 (by decide) (by decide) (off := 45) (tgt := 64) rfl (by decide) ?_
        refine lv_aload_n hx hb dF_gate_64 rfl (lv_at hl 0 rfl) ?_
        refine va_get (D := D) (ci := 0) (v := .ref h1) (C := RF) (T := TF) (N := 19) hx hb hts inF hown hK hP 0 rfl rfl 11 (by decide) (hts _ wv_672) (fun _ h9 => h9) rfl dF_gate_65 ?_
        refine va_get (D := D) (ci := 3) (v := .ref (a1 6)) (C := RGr) (T := TGr) (N := 10) hx hb hts inGr hown hK hP 1 rfl rfl 6 (by decide) (hts _ wv_573) (fun _ h9 => h9) rfl dF_gate_68 ?_
        refine lv_iload_n hx hb dF_gate_71 rfl (lv_at hl 1 rfl) ?_
        obtain ⟨hi_8, h⟩ := op_n h
        refine va_iald (D := D) hx hb hK hP 4 0 rfl rfl hi_8 dF_gate_72 ?_
        refine lv_topi (fun x_9 ex_9 => ?_)
        have h := op_ks ex_9 h
        obtain rfl := Option.some.inj h
        exact dc_iretF ((fF [z0, z1, z2, z3, z4, z5, z6, z7, z8, z9, z10, h1, z12, z13, z14]), (vF [(fun _ => 0), a1])) rfl hx hb hr hlocks rfl (hP.sub [0, 1, 2, 3, 4, 5, 6, 7] rfl) (hD.sub [0, 1, 2, 3, 4, 5, 6, 7] (by decide +kernel) rfl) hS (Nat.zero_le _) (Nat.zero_le _) dF_gate_73
      · have h := op_f c_7 h
        refine lv_tableOut hx hb dF_gate_19 (op_swo (x := v2) (lo := 0) (hi := 2) [(0 : Int32), (1 : Int32), (2 : Int32)] rfl (by simp only [List.mem_cons, List.not_mem_nil, or_false]; rintro y (rfl | rfl | rfl) <;> assumption)) (tgt := 74) (by decide) ?_
        obtain rfl := Option.some.inj h
        exact xt_throwF (K := K) (E := "java/lang/IllegalArgumentException") (own := "CellForge") (names := ["java/lang/RuntimeException", "java/lang/Exception"]) (ik := 106) (ic := 108) ((fF [z0, z1, z2, z3, z4, z5, z6, z7, z8, z9, z10, h1, z12, z13, z14]), (vF [(fun _ => 0), a1])) (show (1 : Int32) ≠ 0 by decide) (show xE 1 = "java/lang/IllegalArgumentException" from rfl) hx hb hl9 hown (by decide +kernel) (by decide +kernel) wv_865 wv_177 hts (fun s9 hts9 hE9 => xt_atoms hts9 hE9 (by decide +kernel)) hE (hP.sub [0, 1, 2, 3, 4, 5, 6, 7] rfl) (hD.sub [0, 1, 2, 3, 4, 5, 6, 7] (by decide +kernel) rfl) hS hA (hl.1.trans hml.symm) dF_gate_74 dF_gate_77 dF_gate_78 dF_gate_81 hEx hlocks (Nat.le_of_ble_eq_true rfl) (Nat.le_of_ble_eq_true rfl) (xc_c (show (1 : Int32) ≠ 0 by decide)) (xc_s (show (1 : Int32) ≠ 0 by decide)) (xc_c (show (1 : Int32) ≠ 0 by decide)) (xc_s (show (1 : Int32) ≠ 0 by decide))
set_option maxHeartbeats 4000000 in
set_option maxRecDepth 100000 in
theorem bF_gate_15 {p : Program} {l : Launch} {e : Env} {s : State} {m : MethodId} {below : List Frame} {meth : Method} {c : Code} {A : Nat → Prop} {D : va_G} {K : Nat → ClassId} {h0 : Nat} {AR : Array Value} (C : ((dc_C p s m AR meth c cF_gate 3 (Option.some Jvm.ClassFile.FieldType.int) yF_gate ∧ cf_E D K A s s.heap ∧ ∀ q, s.heap.size ≤ q → A q) ∧ (∀ x ∈ c.exceptionTable.toList, False) ∧ l.stackTraces = false)) (v1 : Int32) (v2 : Int32) (s0 : Int32) (o0 : cf_O) (o1 : cf_O) (r : Int32 × cf_O) (h : fF_gate_15 v1 v2 s0 o0 o1 = some r) {h1 z0 z1 z2 z3 z4 z5 z6 z7 z8 z9 z10 z12 z13 z14 : Nat} {a1 : Nat → Nat} {H : Heap} {locs : List Loc} {ls : Array Slot} (hP : va_P D vwCl (wF K h0 (fF [z0, z1, z2, z3, z4, z5, z6, z7, z8, z9, z10, h1, z12, z13, z14]) o0 ++ wGr K h1 a1 o1) H) (hD : va_D A (wF K h0 (fF [z0, z1, z2, z3, z4, z5, z6, z7, z8, z9, z10, h1, z12, z13, z14]) o0 ++ wGr K h1 a1 o1)) (hS : va_S A s.heap H locs) (hl : lv_has ls 3 [(0, .ref h0), (1, .int v1), (2, .int v2)]) : W p l e ({ frames := 7, cells := (0 + xc (r.2.1 30)), slots := (0 + 6 * xc (r.2.1 30)), locals := 120 }) s m AR below meth c H locs 0 0 (xq below (r.2.1 30) (va_Qi (fun (x : Int32) (_ : uF) => x = r.1) (fun (u : uF) t => cf_At D A (wF K h0 (fF [z0, z1, z2, z3, z4, z5, z6, z7, z8, z9, z10, h1, z12, z13, z14]) r.2 ++ wGr K h1 a1 o1) t) A) D (fun (u : uF) => wF K h0 (fF [z0, z1, z2, z3, z4, z5, z6, z7, z8, z9, z10, h1, z12, z13, z14]) r.2 ++ wGr K h1 a1 o1) A AR s (0 + xc (r.2.1 30)) (0 + 6 * xc (r.2.1 30))) (F0 m 15 ls [.int s0]) := by
  have hEx := C.2.1
  have hl9 := C.2.2
  obtain ⟨⟨hx, hb, hr, hts, hown, hlocks, hin, hml⟩, hE, hA⟩ := id C.1
  have hK := hE.k
  rcases Classical.em (s0 = 0) with c_1 | c_1
  · have h := op_t c_1 h
    obtain rfl := Option.some.inj h
    rw [c_1]
    refine xt_callS (wc := []) (wr := wF K h0 (fF [z0, z1, z2, z3, z4, z5, z6, z7, z8, z9, z10, h1, z12, z13, z14]) o0 ++ wGr K h1 a1 o1) (As := [.int 0]) (rest := []) ⟨hx, hb, hml, hown, hts⟩ (xF_needPlace l hl9 D K _) (va_cwS 1 hts (cf_GS wv_1131 wv_1132 wv_157 wv_1133) rfl rfl rfl (by decide +kernel) ⟨Nat.le_of_ble_eq_true rfl, Nat.le_of_ble_eq_true rfl⟩) (cf_preS (wc := []) hE hP hD hS hA [] rfl (by decide +kernel)) rfl hl.1 (lv_room (Nat.le_of_ble_eq_true rfl)) dF_gate_15 ⟨(xc_c (show (3 : Int32) ≠ 0 by decide)), (xc_s (show (3 : Int32) ≠ 0 by decide))⟩ hP hD hS hA [] [0, 1, 2, 3, 4, 5, 6, 7] rfl rfl (by decide +kernel) (by decide +kernel) (fun q9 ce H locs hP hD hS hce hcv hcl => ?_)
    exact xt_outF ((fF [z0, z1, z2, z3, z4, z5, z6, z7, z8, z9, z10, h1, z12, z13, z14]), (vF [(fun _ => 0), a1])) (show (3 : Int32) ≠ 0 by decide) (show xE 3 = "java/lang/IndexOutOfBoundsException" from rfl) hEx hlocks hce hcv hcl (hP.sub [0, 1, 2, 3, 4, 5, 6, 7] rfl) (hD.sub [0, 1, 2, 3, 4, 5, 6, 7] (by decide +kernel) rfl) hS (xc_c (show (3 : Int32) ≠ 0 by decide)) (xc_s (show (3 : Int32) ≠ 0 by decide))
  · have h := op_f c_1 h
    refine cf_pcallv (va_runS (As := [.int s0]) (rest := []) ⟨hx, hb, hml, hown, hts⟩ (kn_needPlace l s0 c_1) (va_cwS 1 hts (cf_GS wv_1131 wv_1132 wv_157 wv_1133) rfl rfl rfl (by decide +kernel) ⟨Nat.le_of_ble_eq_true rfl, Nat.le_of_ble_eq_true rfl⟩) preEq rfl rfl hl.1 rfl (lv_room (Nat.le_of_ble_eq_true rfl)) dF_gate_15 ⟨Nat.zero_le _, Nat.zero_le _⟩) ?_
    exact bF_gate_18 C _ _ _ _ _ h hP hD hS (lv_sub hl [0, 1, 2] rfl)
set_option maxHeartbeats 4000000 in
set_option maxRecDepth 100000 in
theorem bF_gate_7 {p : Program} {l : Launch} {e : Env} {s : State} {m : MethodId} {below : List Frame} {meth : Method} {c : Code} {A : Nat → Prop} {D : va_G} {K : Nat → ClassId} {h0 : Nat} {AR : Array Value} (C : ((dc_C p s m AR meth c cF_gate 3 (Option.some Jvm.ClassFile.FieldType.int) yF_gate ∧ cf_E D K A s s.heap ∧ ∀ q, s.heap.size ≤ q → A q) ∧ (∀ x ∈ c.exceptionTable.toList, False) ∧ l.stackTraces = false)) (v1 : Int32) (v2 : Int32) (o0 : cf_O) (o1 : cf_O) (r : Int32 × cf_O) (h : fF_gate_7 v1 v2 o0 o1 = some r) {h1 z0 z1 z2 z3 z4 z5 z6 z7 z8 z9 z10 z12 z13 z14 : Nat} {a1 : Nat → Nat} {H : Heap} {locs : List Loc} {ls : Array Slot} (hP : va_P D vwCl (wF K h0 (fF [z0, z1, z2, z3, z4, z5, z6, z7, z8, z9, z10, h1, z12, z13, z14]) o0 ++ wGr K h1 a1 o1) H) (hD : va_D A (wF K h0 (fF [z0, z1, z2, z3, z4, z5, z6, z7, z8, z9, z10, h1, z12, z13, z14]) o0 ++ wGr K h1 a1 o1)) (hS : va_S A s.heap H locs) (hl : lv_has ls 3 [(0, .ref h0), (1, .int v1), (2, .int v2)]) : W p l e ({ frames := 7, cells := (0 + xc (r.2.1 30)), slots := (0 + 6 * xc (r.2.1 30)), locals := 120 }) s m AR below meth c H locs 0 0 (xq below (r.2.1 30) (va_Qi (fun (x : Int32) (_ : uF) => x = r.1) (fun (u : uF) t => cf_At D A (wF K h0 (fF [z0, z1, z2, z3, z4, z5, z6, z7, z8, z9, z10, h1, z12, z13, z14]) r.2 ++ wGr K h1 a1 o1) t) A) D (fun (u : uF) => wF K h0 (fF [z0, z1, z2, z3, z4, z5, z6, z7, z8, z9, z10, h1, z12, z13, z14]) r.2 ++ wGr K h1 a1 o1) A AR s (0 + xc (r.2.1 30)) (0 + 6 * xc (r.2.1 30))) (F0 m 7 ls []) := by
  have hEx := C.2.1
  have hl9 := C.2.2
  obtain ⟨⟨hx, hb, hr, hts, hown, hlocks, hin, hml⟩, hE, hA⟩ := id C.1
  have hK := hE.k
  refine lv_aload_n hx hb dF_gate_7 rfl (lv_at hl 0 rfl) ?_
  refine va_get (D := D) (ci := 0) (v := .ref h1) (C := RF) (T := TF) (N := 19) hx hb hts inF hown hK hP 0 rfl rfl 11 (by decide) (hts _ wv_672) (fun _ h9 => h9) rfl dF_gate_8 ?_
  refine lv_iload_n hx hb dF_gate_11 rfl (lv_at hl 1 rfl) ?_
  obtain ⟨q_1, hq_1, h⟩ := op_b h
  refine cf_calli (wc := wGr K h1 a1 o1) (wr := wF K h0 (fF [z0, z1, z2, z3, z4, z5, z6, z7, z8, z9, z10, h1, z12, z13, z14]) o0) (va_runV (As := [.int v1]) (rest := []) ⟨hx, hb, hml, hown, hts⟩ (mGr_isGate l D K _ v1 h1 a1 o1 _ hq_1) (cwV 1 hts (cf_GV wv_1127 wv_1128 wv_1129 wv_171 wv_1130) rfl rfl rfl (by decide +kernel) ⟨Nat.le_of_ble_eq_true rfl, Nat.le_of_ble_eq_true rfl⟩) (cf_preV (wc := wGr K h1 a1 o1) hE hP hD hS hA rfl 1 rfl [1, 2, 3, 4, 5, 6, 7] rfl (by decide +kernel)) rfl rfl hl.1 rfl (lv_room (Nat.le_of_ble_eq_true rfl)) dF_gate_12 ⟨Nat.zero_le _, Nat.zero_le _⟩) hP hD hS hA [1, 2, 3, 4, 5, 6, 7] [0] rfl rfl (by decide +kernel) (by decide +kernel) (fun r_2 _ H locs hw_3 hP hD hS => ?_)
  subst r_2
  have hP : va_P D vwCl (wF K h0 (fF [z0, z1, z2, z3, z4, z5, z6, z7, z8, z9, z10, h1, z12, z13, z14]) o0 ++ wGr K h1 a1 o1) H := hP.sub [0, 1, 2, 3, 4, 5, 6, 7] rfl
  have hD : va_D A (wF K h0 (fF [z0, z1, z2, z3, z4, z5, z6, z7, z8, z9, z10, h1, z12, z13, z14]) o0 ++ wGr K h1 a1 o1) := hD.sub [0, 1, 2, 3, 4, 5, 6, 7] (by decide +kernel) rfl
  exact bF_gate_15 C _ _ _ _ _ _ h hP hD hS (lv_sub hl [0, 1, 2] rfl)
set_option maxHeartbeats 4000000 in
set_option maxRecDepth 100000 in
theorem bF_gate_0 {p : Program} {l : Launch} {e : Env} {s : State} {m : MethodId} {below : List Frame} {meth : Method} {c : Code} {A : Nat → Prop} {D : va_G} {K : Nat → ClassId} {h0 : Nat} {AR : Array Value} (C : ((dc_C p s m AR meth c cF_gate 3 (Option.some Jvm.ClassFile.FieldType.int) yF_gate ∧ cf_E D K A s s.heap ∧ ∀ q, s.heap.size ≤ q → A q) ∧ (∀ x ∈ c.exceptionTable.toList, False) ∧ l.stackTraces = false)) (v1 : Int32) (v2 : Int32) (o0 : cf_O) (o1 : cf_O) (r : Int32 × cf_O) (h : fF_gate_0 v1 v2 o0 o1 = some r) {h1 z0 z1 z2 z3 z4 z5 z6 z7 z8 z9 z10 z12 z13 z14 : Nat} {a1 : Nat → Nat} {H : Heap} {locs : List Loc} {ls : Array Slot} (hP : va_P D vwCl (wF K h0 (fF [z0, z1, z2, z3, z4, z5, z6, z7, z8, z9, z10, h1, z12, z13, z14]) o0 ++ wGr K h1 a1 o1) H) (hD : va_D A (wF K h0 (fF [z0, z1, z2, z3, z4, z5, z6, z7, z8, z9, z10, h1, z12, z13, z14]) o0 ++ wGr K h1 a1 o1)) (hS : va_S A s.heap H locs) (hl : lv_has ls 3 [(0, .ref h0), (1, .int v1), (2, .int v2)]) : W p l e ({ frames := 7, cells := (0 + xc (r.2.1 30)), slots := (0 + 6 * xc (r.2.1 30)), locals := 120 }) s m AR below meth c H locs 0 0 (xq below (r.2.1 30) (va_Qi (fun (x : Int32) (_ : uF) => x = r.1) (fun (u : uF) t => cf_At D A (wF K h0 (fF [z0, z1, z2, z3, z4, z5, z6, z7, z8, z9, z10, h1, z12, z13, z14]) r.2 ++ wGr K h1 a1 o1) t) A) D (fun (u : uF) => wF K h0 (fF [z0, z1, z2, z3, z4, z5, z6, z7, z8, z9, z10, h1, z12, z13, z14]) r.2 ++ wGr K h1 a1 o1) A AR s (0 + xc (r.2.1 30)) (0 + 6 * xc (r.2.1 30))) (F0 m 0 ls []) := by
  have hEx := C.2.1
  have hl9 := C.2.2
  obtain ⟨⟨hx, hb, hr, hts, hown, hlocks, hin, hml⟩, hE, hA⟩ := id C.1
  have hK := hE.k
  refine lv_aload_n hx hb dF_gate_0 rfl (lv_at hl 0 rfl) ?_
  refine va_get (D := D) (ci := 0) (v := .int (o0.1 16)) (C := RF) (T := TF) (N := 19) hx hb hts inF hown hK hP 0 rfl rfl 16 (by decide) (hts _ wv_677) (fun _ h9 => h9) rfl dF_gate_1 ?_
  rcases Classical.em ((o0.1 16) = 0) with c_1 | c_1
  · have h := op_t c_1 h
    obtain rfl := Option.some.inj h
    rw [c_1]
    refine xt_callS (wc := []) (wr := wF K h0 (fF [z0, z1, z2, z3, z4, z5, z6, z7, z8, z9, z10, h1, z12, z13, z14]) o0 ++ wGr K h1 a1 o1) (As := [.int 0]) (rest := []) ⟨hx, hb, hml, hown, hts⟩ (xF_needState l hl9 D K _) (va_cwS 1 hts (cf_GS wv_1097 wv_1098 wv_157 wv_1099) rfl rfl rfl (by decide +kernel) ⟨Nat.le_of_ble_eq_true rfl, Nat.le_of_ble_eq_true rfl⟩) (cf_preS (wc := []) hE hP hD hS hA [] rfl (by decide +kernel)) rfl hl.1 (lv_room (Nat.le_of_ble_eq_true rfl)) dF_gate_4 ⟨(xc_c (show (2 : Int32) ≠ 0 by decide)), (xc_s (show (2 : Int32) ≠ 0 by decide))⟩ hP hD hS hA [] [0, 1, 2, 3, 4, 5, 6, 7] rfl rfl (by decide +kernel) (by decide +kernel) (fun q9 ce H locs hP hD hS hce hcv hcl => ?_)
    exact xt_outF ((fF [z0, z1, z2, z3, z4, z5, z6, z7, z8, z9, z10, h1, z12, z13, z14]), (vF [(fun _ => 0), a1])) (show (2 : Int32) ≠ 0 by decide) (show xE 2 = "java/lang/IllegalStateException" from rfl) hEx hlocks hce hcv hcl (hP.sub [0, 1, 2, 3, 4, 5, 6, 7] rfl) (hD.sub [0, 1, 2, 3, 4, 5, 6, 7] (by decide +kernel) rfl) hS (xc_c (show (2 : Int32) ≠ 0 by decide)) (xc_s (show (2 : Int32) ≠ 0 by decide))
  · have h := op_f c_1 h
    refine cf_pcallv (va_runS (As := [.int (o0.1 16)]) (rest := []) ⟨hx, hb, hml, hown, hts⟩ (kn_needState l (o0.1 16) c_1) (va_cwS 1 hts (cf_GS wv_1097 wv_1098 wv_157 wv_1099) rfl rfl rfl (by decide +kernel) ⟨Nat.le_of_ble_eq_true rfl, Nat.le_of_ble_eq_true rfl⟩) preEq rfl rfl hl.1 rfl (lv_room (Nat.le_of_ble_eq_true rfl)) dF_gate_4 ⟨Nat.zero_le _, Nat.zero_le _⟩) ?_
    exact bF_gate_7 C _ _ _ _ _ h hP hD hS (lv_sub hl [0, 1, 2] rfl)
set_option maxRecDepth 100000 in
theorem mF_gate (l : Launch) (hl9 : l.stackTraces = false) (D : va_G) (K : Nat → ClassId) (sz : Nat) (v1 : Int32) (v2 : Int32) (h0 : Nat) (h1 : Nat) (a1 : Nat → Nat) (z0 : Nat) (z1 : Nat) (z2 : Nat) (z3 : Nat) (z4 : Nat) (z5 : Nat) (z6 : Nat) (z7 : Nat) (z8 : Nat) (z9 : Nat) (z10 : Nat) (z12 : Nat) (z13 : Nat) (z14 : Nat) (o0 : cf_O) (o1 : cf_O) (r : Int32 × cf_O) (h : fF_gate v1 v2 o0 o1 = some r) (h0c : (r.2.1 30) = 0) : Met l yF_gate (Cond.code yF_gate cF_gate 3 (Option.some Jvm.ClassFile.FieldType.int) :: cfB) ({ frames := 7, cells := (0 + xc (r.2.1 30)), slots := (0 + 6 * xc (r.2.1 30)), locals := 120 }) (va_Pc [.ref h0, .int v1, .int v2] (cf_Pre D K sz (wF K h0 (fF [z0, z1, z2, z3, z4, z5, z6, z7, z8, z9, z10, h1, z12, z13, z14]) o0 ++ wGr K h1 a1 o1))) (va_Qi (fun (x : Int32) (_ : uF) => x = r.1) (fun (u : uF) t => cf_At D (va_A (wF K h0 (fF [z0, z1, z2, z3, z4, z5, z6, z7, z8, z9, z10, h1, z12, z13, z14]) o0 ++ wGr K h1 a1 o1) sz) (wF K h0 (fF [z0, z1, z2, z3, z4, z5, z6, z7, z8, z9, z10, h1, z12, z13, z14]) r.2 ++ wGr K h1 a1 o1) t) (va_A (wF K h0 (fF [z0, z1, z2, z3, z4, z5, z6, z7, z8, z9, z10, h1, z12, z13, z14]) o0 ++ wGr K h1 a1 o1) sz)) (0 + xc (r.2.1 30)) (0 + 6 * xc (r.2.1 30)) (va_A (wF K h0 (fF [z0, z1, z2, z3, z4, z5, z6, z7, z8, z9, z10, h1, z12, z13, z14]) o0 ++ wGr K h1 a1 o1) sz) := by
  refine cf_ofWF (y := yF_gate) (As := [.ref h0, .int v1, .int v2]) (WS := wF K h0 (fF [z0, z1, z2, z3, z4, z5, z6, z7, z8, z9, z10, h1, z12, z13, z14]) o0 ++ wGr K h1 a1 o1) (maxL := 3) (fun A => (va_Qi (fun (x : Int32) (_ : uF) => x = r.1) (fun (u : uF) t => cf_At D A (wF K h0 (fF [z0, z1, z2, z3, z4, z5, z6, z7, z8, z9, z10, h1, z12, z13, z14]) r.2 ++ wGr K h1 a1 o1) t) A)) (by decide) (Nat.le_of_ble_eq_true rfl) ?_
  intro p e s m below meth c A ls En hEx hNS hsz hA hP hD hE hS hl
  have C : ((dc_C p s m (([.ref h0, .int v1, .int v2] : List Value).toArray) meth c cF_gate 3 (Option.some Jvm.ClassFile.FieldType.int) yF_gate ∧ cf_E D K A s s.heap ∧ ∀ q, s.heap.size ≤ q → A q) ∧ (∀ x ∈ c.exceptionTable.toList, False) ∧ l.stackTraces = false) := ⟨⟨En, hE, hA⟩, hEx, hl9⟩
  refine W_to (fun t9 h9 => ?_) (bF_gate_0 C v1 v2 o0 o1 r h hP hD hS hl)
  rcases h9 with h9 | h9
  · exact h9.2
  · exact absurd h0c h9.1
set_option maxRecDepth 100000 in
theorem zxF_gate (l : Launch) (hl9 : l.stackTraces = false) (D : va_G) (K : Nat → ClassId) (sz : Nat) (v1 : Int32) (v2 : Int32) (h0 : Nat) (h1 : Nat) (a1 : Nat → Nat) (z0 : Nat) (z1 : Nat) (z2 : Nat) (z3 : Nat) (z4 : Nat) (z5 : Nat) (z6 : Nat) (z7 : Nat) (z8 : Nat) (z9 : Nat) (z10 : Nat) (z12 : Nat) (z13 : Nat) (z14 : Nat) (o0 : cf_O) (o1 : cf_O) (r : Int32 × cf_O) (h : fF_gate v1 v2 o0 o1 = some r) (h0c : ¬ (r.2.1 30) = 0) : xt_MetG l yF_gate (Cond.code yF_gate cF_gate 3 (Option.some Jvm.ClassFile.FieldType.int) :: cfB) ({ frames := 7, cells := (0 + xc (r.2.1 30)), slots := (0 + 6 * xc (r.2.1 30)), locals := 120 }) (va_Pc [.ref h0, .int v1, .int v2] (cf_Pre D K sz (wF K h0 (fF [z0, z1, z2, z3, z4, z5, z6, z7, z8, z9, z10, h1, z12, z13, z14]) o0 ++ wGr K h1 a1 o1))) (xE (r.2.1 30)) D (fun (u : uF) => wF K h0 (fF [z0, z1, z2, z3, z4, z5, z6, z7, z8, z9, z10, h1, z12, z13, z14]) r.2 ++ wGr K h1 a1 o1) (va_A (wF K h0 (fF [z0, z1, z2, z3, z4, z5, z6, z7, z8, z9, z10, h1, z12, z13, z14]) o0 ++ wGr K h1 a1 o1) sz) (0 + xc (r.2.1 30)) (0 + 6 * xc (r.2.1 30)) := by
  refine xt_ofWG (y := yF_gate) (As := [.ref h0, .int v1, .int v2]) (WS := wF K h0 (fF [z0, z1, z2, z3, z4, z5, z6, z7, z8, z9, z10, h1, z12, z13, z14]) o0 ++ wGr K h1 a1 o1) (maxL := 3) (by decide) (Nat.le_of_ble_eq_true rfl) ?_
  intro p e s m below meth c A ls En hEx hNS hsz hA hP hD hE hS hl
  have C : ((dc_C p s m (([.ref h0, .int v1, .int v2] : List Value).toArray) meth c cF_gate 3 (Option.some Jvm.ClassFile.FieldType.int) yF_gate ∧ cf_E D K A s s.heap ∧ ∀ q, s.heap.size ≤ q → A q) ∧ (∀ x ∈ c.exceptionTable.toList, False) ∧ l.stackTraces = false) := ⟨⟨En, hE, hA⟩, hEx, hl9⟩
  refine W_to (fun t9 h9 => ?_) (bF_gate_0 C v1 v2 o0 o1 r h hP hD hS hl)
  rcases h9 with h9 | h9
  · exact absurd h9.1 h0c
  · exact h9.2
set_option maxHeartbeats 4000000 in
set_option maxRecDepth 100000 in
theorem bF_output_30 {p : Program} {l : Launch} {e : Env} {s : State} {m : MethodId} {below : List Frame} {meth : Method} {c : Code} {A : Nat → Prop} {D : va_G} {K : Nat → ClassId} {h0 : Nat} {AR : Array Value} (C : ((dc_C p s m AR meth c cF_output 2 (Option.some Jvm.ClassFile.FieldType.int) yF_output ∧ cf_E D K A s s.heap ∧ ∀ q, s.heap.size ≤ q → A q) ∧ (∀ x ∈ c.exceptionTable.toList, False) ∧ l.stackTraces = false)) (v1 : Int32) (o0 : cf_O) (o1 : cf_O) (r : Int32 × cf_O) (h : fF_output_30 v1 o0 o1 = some r) {h1 z0 z1 z2 z3 z4 z5 z6 z7 z8 z9 z10 z12 z13 z14 : Nat} {a1 : Nat → Nat} {H : Heap} {locs : List Loc} {ls : Array Slot} (hP : va_P D vwCl (wF K h0 (fF [z0, z1, z2, z3, z4, z5, z6, z7, z8, z9, z10, h1, z12, z13, z14]) o0 ++ wGr K h1 a1 o1) H) (hD : va_D A (wF K h0 (fF [z0, z1, z2, z3, z4, z5, z6, z7, z8, z9, z10, h1, z12, z13, z14]) o0 ++ wGr K h1 a1 o1)) (hS : va_S A s.heap H locs) (hl : lv_has ls 2 [(0, .ref h0), (1, .int v1)]) : W p l e ({ frames := 7, cells := (0 + xc (r.2.1 30)), slots := (0 + 6 * xc (r.2.1 30)), locals := 120 }) s m AR below meth c H locs 0 0 (xq below (r.2.1 30) (va_Qi (fun (x : Int32) (_ : uF) => x = r.1) (fun (u : uF) t => cf_At D A (wF K h0 (fF [z0, z1, z2, z3, z4, z5, z6, z7, z8, z9, z10, h1, z12, z13, z14]) r.2 ++ wGr K h1 a1 o1) t) A) D (fun (u : uF) => wF K h0 (fF [z0, z1, z2, z3, z4, z5, z6, z7, z8, z9, z10, h1, z12, z13, z14]) r.2 ++ wGr K h1 a1 o1) A AR s (0 + xc (r.2.1 30)) (0 + 6 * xc (r.2.1 30))) (F0 m 30 ls []) := by
  have hEx := C.2.1
  have hl9 := C.2.2
  obtain ⟨⟨hx, hb, hr, hts, hown, hlocks, hin, hml⟩, hE, hA⟩ := id C.1
  have hK := hE.k
  refine lv_aload_n hx hb dF_output_30 rfl (lv_at hl 0 rfl) ?_
  refine va_get (D := D) (ci := 0) (v := .ref h1) (C := RF) (T := TF) (N := 19) hx hb hts inF hown hK hP 0 rfl rfl 11 (by decide) (hts _ wv_672) (fun _ h9 => h9) rfl dF_output_31 ?_
  refine va_get (D := D) (ci := 3) (v := .ref (a1 7)) (C := RGr) (T := TGr) (N := 10) hx hb hts inGr hown hK hP 1 rfl rfl 7 (by decide) (hts _ wv_579) (fun _ h9 => h9) rfl dF_output_34 ?_
  refine lv_iload_n hx hb dF_output_37 rfl (lv_at hl 1 rfl) ?_
  obtain ⟨hi_1, h⟩ := op_n h
  refine va_iald (D := D) hx hb hK hP 5 0 rfl rfl hi_1 dF_output_38 ?_
  refine lv_topi (fun x_2 ex_2 => ?_)
  have h := op_ks ex_2 h
  obtain rfl := Option.some.inj h
  exact dc_iretF ((fF [z0, z1, z2, z3, z4, z5, z6, z7, z8, z9, z10, h1, z12, z13, z14]), (vF [(fun _ => 0), a1])) rfl hx hb hr hlocks rfl (hP.sub [0, 1, 2, 3, 4, 5, 6, 7] rfl) (hD.sub [0, 1, 2, 3, 4, 5, 6, 7] (by decide +kernel) rfl) hS (Nat.zero_le _) (Nat.zero_le _) dF_output_39
set_option maxHeartbeats 4000000 in
set_option maxRecDepth 100000 in
theorem bF_output_27 {p : Program} {l : Launch} {e : Env} {s : State} {m : MethodId} {below : List Frame} {meth : Method} {c : Code} {A : Nat → Prop} {D : va_G} {K : Nat → ClassId} {h0 : Nat} {AR : Array Value} (C : ((dc_C p s m AR meth c cF_output 2 (Option.some Jvm.ClassFile.FieldType.int) yF_output ∧ cf_E D K A s s.heap ∧ ∀ q, s.heap.size ≤ q → A q) ∧ (∀ x ∈ c.exceptionTable.toList, False) ∧ l.stackTraces = false)) (v1 : Int32) (s0 : Int32) (o0 : cf_O) (o1 : cf_O) (r : Int32 × cf_O) (h : fF_output_27 v1 s0 o0 o1 = some r) {h1 z0 z1 z2 z3 z4 z5 z6 z7 z8 z9 z10 z12 z13 z14 : Nat} {a1 : Nat → Nat} {H : Heap} {locs : List Loc} {ls : Array Slot} (hP : va_P D vwCl (wF K h0 (fF [z0, z1, z2, z3, z4, z5, z6, z7, z8, z9, z10, h1, z12, z13, z14]) o0 ++ wGr K h1 a1 o1) H) (hD : va_D A (wF K h0 (fF [z0, z1, z2, z3, z4, z5, z6, z7, z8, z9, z10, h1, z12, z13, z14]) o0 ++ wGr K h1 a1 o1)) (hS : va_S A s.heap H locs) (hl : lv_has ls 2 [(0, .ref h0), (1, .int v1)]) : W p l e ({ frames := 7, cells := (0 + xc (r.2.1 30)), slots := (0 + 6 * xc (r.2.1 30)), locals := 120 }) s m AR below meth c H locs 0 0 (xq below (r.2.1 30) (va_Qi (fun (x : Int32) (_ : uF) => x = r.1) (fun (u : uF) t => cf_At D A (wF K h0 (fF [z0, z1, z2, z3, z4, z5, z6, z7, z8, z9, z10, h1, z12, z13, z14]) r.2 ++ wGr K h1 a1 o1) t) A) D (fun (u : uF) => wF K h0 (fF [z0, z1, z2, z3, z4, z5, z6, z7, z8, z9, z10, h1, z12, z13, z14]) r.2 ++ wGr K h1 a1 o1) A AR s (0 + xc (r.2.1 30)) (0 + 6 * xc (r.2.1 30))) (F0 m 27 ls [.int s0]) := by
  have hEx := C.2.1
  have hl9 := C.2.2
  obtain ⟨⟨hx, hb, hr, hts, hown, hlocks, hin, hml⟩, hE, hA⟩ := id C.1
  have hK := hE.k
  rcases Classical.em (s0 = 0) with c_1 | c_1
  · have h := op_t c_1 h
    obtain rfl := Option.some.inj h
    rw [c_1]
    refine xt_callS (wc := []) (wr := wF K h0 (fF [z0, z1, z2, z3, z4, z5, z6, z7, z8, z9, z10, h1, z12, z13, z14]) o0 ++ wGr K h1 a1 o1) (As := [.int 0]) (rest := []) ⟨hx, hb, hml, hown, hts⟩ (xF_needPlace l hl9 D K _) (va_cwS 1 hts (cf_GS wv_1131 wv_1132 wv_157 wv_1133) rfl rfl rfl (by decide +kernel) ⟨Nat.le_of_ble_eq_true rfl, Nat.le_of_ble_eq_true rfl⟩) (cf_preS (wc := []) hE hP hD hS hA [] rfl (by decide +kernel)) rfl hl.1 (lv_room (Nat.le_of_ble_eq_true rfl)) dF_output_27 ⟨(xc_c (show (3 : Int32) ≠ 0 by decide)), (xc_s (show (3 : Int32) ≠ 0 by decide))⟩ hP hD hS hA [] [0, 1, 2, 3, 4, 5, 6, 7] rfl rfl (by decide +kernel) (by decide +kernel) (fun q9 ce H locs hP hD hS hce hcv hcl => ?_)
    exact xt_outF ((fF [z0, z1, z2, z3, z4, z5, z6, z7, z8, z9, z10, h1, z12, z13, z14]), (vF [(fun _ => 0), a1])) (show (3 : Int32) ≠ 0 by decide) (show xE 3 = "java/lang/IndexOutOfBoundsException" from rfl) hEx hlocks hce hcv hcl (hP.sub [0, 1, 2, 3, 4, 5, 6, 7] rfl) (hD.sub [0, 1, 2, 3, 4, 5, 6, 7] (by decide +kernel) rfl) hS (xc_c (show (3 : Int32) ≠ 0 by decide)) (xc_s (show (3 : Int32) ≠ 0 by decide))
  · have h := op_f c_1 h
    refine cf_pcallv (va_runS (As := [.int s0]) (rest := []) ⟨hx, hb, hml, hown, hts⟩ (kn_needPlace l s0 c_1) (va_cwS 1 hts (cf_GS wv_1131 wv_1132 wv_157 wv_1133) rfl rfl rfl (by decide +kernel) ⟨Nat.le_of_ble_eq_true rfl, Nat.le_of_ble_eq_true rfl⟩) preEq rfl rfl hl.1 rfl (lv_room (Nat.le_of_ble_eq_true rfl)) dF_output_27 ⟨Nat.zero_le _, Nat.zero_le _⟩) ?_
    exact bF_output_30 C _ _ _ _ h hP hD hS (lv_sub hl [0, 1] rfl)
set_option maxHeartbeats 4000000 in
set_option maxRecDepth 100000 in
theorem bF_output_26 {p : Program} {l : Launch} {e : Env} {s : State} {m : MethodId} {below : List Frame} {meth : Method} {c : Code} {A : Nat → Prop} {D : va_G} {K : Nat → ClassId} {h0 : Nat} {AR : Array Value} (C : ((dc_C p s m AR meth c cF_output 2 (Option.some Jvm.ClassFile.FieldType.int) yF_output ∧ cf_E D K A s s.heap ∧ ∀ q, s.heap.size ≤ q → A q) ∧ (∀ x ∈ c.exceptionTable.toList, False) ∧ l.stackTraces = false)) (v1 : Int32) (o0 : cf_O) (o1 : cf_O) (r : Int32 × cf_O) (h : fF_output_26 v1 o0 o1 = some r) {h1 z0 z1 z2 z3 z4 z5 z6 z7 z8 z9 z10 z12 z13 z14 : Nat} {a1 : Nat → Nat} {H : Heap} {locs : List Loc} {ls : Array Slot} (hP : va_P D vwCl (wF K h0 (fF [z0, z1, z2, z3, z4, z5, z6, z7, z8, z9, z10, h1, z12, z13, z14]) o0 ++ wGr K h1 a1 o1) H) (hD : va_D A (wF K h0 (fF [z0, z1, z2, z3, z4, z5, z6, z7, z8, z9, z10, h1, z12, z13, z14]) o0 ++ wGr K h1 a1 o1)) (hS : va_S A s.heap H locs) (hl : lv_has ls 2 [(0, .ref h0), (1, .int v1)]) : W p l e ({ frames := 7, cells := (0 + xc (r.2.1 30)), slots := (0 + 6 * xc (r.2.1 30)), locals := 120 }) s m AR below meth c H locs 0 0 (xq below (r.2.1 30) (va_Qi (fun (x : Int32) (_ : uF) => x = r.1) (fun (u : uF) t => cf_At D A (wF K h0 (fF [z0, z1, z2, z3, z4, z5, z6, z7, z8, z9, z10, h1, z12, z13, z14]) r.2 ++ wGr K h1 a1 o1) t) A) D (fun (u : uF) => wF K h0 (fF [z0, z1, z2, z3, z4, z5, z6, z7, z8, z9, z10, h1, z12, z13, z14]) r.2 ++ wGr K h1 a1 o1) A AR s (0 + xc (r.2.1 30)) (0 + 6 * xc (r.2.1 30))) (F0 m 26 ls []) := by
  have hEx := C.2.1
  have hl9 := C.2.2
  obtain ⟨⟨hx, hb, hr, hts, hown, hlocks, hin, hml⟩, hE, hA⟩ := id C.1
  have hK := hE.k
  refine lv_iconst (v := 0) hx hb dF_output_26 (by decide) ?_
  exact bF_output_27 C _ _ _ _ _ h hP hD hS (lv_sub hl [0, 1] rfl)
set_option maxHeartbeats 4000000 in
set_option maxRecDepth 100000 in
theorem bF_output_7 {p : Program} {l : Launch} {e : Env} {s : State} {m : MethodId} {below : List Frame} {meth : Method} {c : Code} {A : Nat → Prop} {D : va_G} {K : Nat → ClassId} {h0 : Nat} {AR : Array Value} (C : ((dc_C p s m AR meth c cF_output 2 (Option.some Jvm.ClassFile.FieldType.int) yF_output ∧ cf_E D K A s s.heap ∧ ∀ q, s.heap.size ≤ q → A q) ∧ (∀ x ∈ c.exceptionTable.toList, False) ∧ l.stackTraces = false)) (v1 : Int32) (o0 : cf_O) (o1 : cf_O) (r : Int32 × cf_O) (h : fF_output_7 v1 o0 o1 = some r) {h1 z0 z1 z2 z3 z4 z5 z6 z7 z8 z9 z10 z12 z13 z14 : Nat} {a1 : Nat → Nat} {H : Heap} {locs : List Loc} {ls : Array Slot} (hP : va_P D vwCl (wF K h0 (fF [z0, z1, z2, z3, z4, z5, z6, z7, z8, z9, z10, h1, z12, z13, z14]) o0 ++ wGr K h1 a1 o1) H) (hD : va_D A (wF K h0 (fF [z0, z1, z2, z3, z4, z5, z6, z7, z8, z9, z10, h1, z12, z13, z14]) o0 ++ wGr K h1 a1 o1)) (hS : va_S A s.heap H locs) (hl : lv_has ls 2 [(0, .ref h0), (1, .int v1)]) : W p l e ({ frames := 7, cells := (0 + xc (r.2.1 30)), slots := (0 + 6 * xc (r.2.1 30)), locals := 120 }) s m AR below meth c H locs 0 0 (xq below (r.2.1 30) (va_Qi (fun (x : Int32) (_ : uF) => x = r.1) (fun (u : uF) t => cf_At D A (wF K h0 (fF [z0, z1, z2, z3, z4, z5, z6, z7, z8, z9, z10, h1, z12, z13, z14]) r.2 ++ wGr K h1 a1 o1) t) A) D (fun (u : uF) => wF K h0 (fF [z0, z1, z2, z3, z4, z5, z6, z7, z8, z9, z10, h1, z12, z13, z14]) r.2 ++ wGr K h1 a1 o1) A AR s (0 + xc (r.2.1 30)) (0 + 6 * xc (r.2.1 30))) (F0 m 7 ls []) := by
  have hEx := C.2.1
  have hl9 := C.2.2
  obtain ⟨⟨hx, hb, hr, hts, hown, hlocks, hin, hml⟩, hE, hA⟩ := id C.1
  have hK := hE.k
  refine lv_iload_n hx hb dF_output_7 rfl (lv_at hl 1 rfl) ?_
  refine lv_if_lt (tgt := 26) hx hb dF_output_8 (by decide) (fun c_1 => ?_) (fun c_1 => ?_)
  · have h := op_t c_1 h
    exact bF_output_26 C _ _ _ _ h hP hD hS (lv_sub hl [0, 1] rfl)
  · have h := op_f c_1 h
    refine lv_iload_n hx hb dF_output_11 rfl (lv_at hl 1 rfl) ?_
    refine lv_aload_n hx hb dF_output_12 rfl (lv_at hl 0 rfl) ?_
    refine va_get (D := D) (ci := 0) (v := .ref h1) (C := RF) (T := TF) (N := 19) hx hb hts inF hown hK hP 0 rfl rfl 11 (by decide) (hts _ wv_672) (fun _ h9 => h9) rfl dF_output_13 ?_
    refine va_get (D := D) (ci := 3) (v := .int (o1.1 1)) (C := RGr) (T := TGr) (N := 10) hx hb hts inGr hown hK hP 1 rfl rfl 1 (by decide) (hts _ wv_555) (fun _ h9 => h9) rfl dF_output_16 ?_
    refine lv_icmp_ge (tgt := 26) hx hb dF_output_19 (by decide) (fun c_2 => ?_) (fun c_2 => ?_)
    · have h := op_t c_2 h
      exact bF_output_26 C _ _ _ _ h hP hD hS (lv_sub hl [0, 1] rfl)
    · have h := op_f c_2 h
      refine lv_iconst (v := 1) hx hb dF_output_22 (by decide) ?_
      refine lv_goto (tgt := 27) hx hb dF_output_23 (by decide) ?_
      exact bF_output_27 C _ _ _ _ _ h hP hD hS (lv_sub hl [0, 1] rfl)
set_option maxHeartbeats 4000000 in
set_option maxRecDepth 100000 in
theorem bF_output_0 {p : Program} {l : Launch} {e : Env} {s : State} {m : MethodId} {below : List Frame} {meth : Method} {c : Code} {A : Nat → Prop} {D : va_G} {K : Nat → ClassId} {h0 : Nat} {AR : Array Value} (C : ((dc_C p s m AR meth c cF_output 2 (Option.some Jvm.ClassFile.FieldType.int) yF_output ∧ cf_E D K A s s.heap ∧ ∀ q, s.heap.size ≤ q → A q) ∧ (∀ x ∈ c.exceptionTable.toList, False) ∧ l.stackTraces = false)) (v1 : Int32) (o0 : cf_O) (o1 : cf_O) (r : Int32 × cf_O) (h : fF_output_0 v1 o0 o1 = some r) {h1 z0 z1 z2 z3 z4 z5 z6 z7 z8 z9 z10 z12 z13 z14 : Nat} {a1 : Nat → Nat} {H : Heap} {locs : List Loc} {ls : Array Slot} (hP : va_P D vwCl (wF K h0 (fF [z0, z1, z2, z3, z4, z5, z6, z7, z8, z9, z10, h1, z12, z13, z14]) o0 ++ wGr K h1 a1 o1) H) (hD : va_D A (wF K h0 (fF [z0, z1, z2, z3, z4, z5, z6, z7, z8, z9, z10, h1, z12, z13, z14]) o0 ++ wGr K h1 a1 o1)) (hS : va_S A s.heap H locs) (hl : lv_has ls 2 [(0, .ref h0), (1, .int v1)]) : W p l e ({ frames := 7, cells := (0 + xc (r.2.1 30)), slots := (0 + 6 * xc (r.2.1 30)), locals := 120 }) s m AR below meth c H locs 0 0 (xq below (r.2.1 30) (va_Qi (fun (x : Int32) (_ : uF) => x = r.1) (fun (u : uF) t => cf_At D A (wF K h0 (fF [z0, z1, z2, z3, z4, z5, z6, z7, z8, z9, z10, h1, z12, z13, z14]) r.2 ++ wGr K h1 a1 o1) t) A) D (fun (u : uF) => wF K h0 (fF [z0, z1, z2, z3, z4, z5, z6, z7, z8, z9, z10, h1, z12, z13, z14]) r.2 ++ wGr K h1 a1 o1) A AR s (0 + xc (r.2.1 30)) (0 + 6 * xc (r.2.1 30))) (F0 m 0 ls []) := by
  have hEx := C.2.1
  have hl9 := C.2.2
  obtain ⟨⟨hx, hb, hr, hts, hown, hlocks, hin, hml⟩, hE, hA⟩ := id C.1
  have hK := hE.k
  refine lv_aload_n hx hb dF_output_0 rfl (lv_at hl 0 rfl) ?_
  refine va_get (D := D) (ci := 0) (v := .int (o0.1 16)) (C := RF) (T := TF) (N := 19) hx hb hts inF hown hK hP 0 rfl rfl 16 (by decide) (hts _ wv_677) (fun _ h9 => h9) rfl dF_output_1 ?_
  rcases Classical.em ((o0.1 16) = 0) with c_1 | c_1
  · have h := op_t c_1 h
    obtain rfl := Option.some.inj h
    rw [c_1]
    refine xt_callS (wc := []) (wr := wF K h0 (fF [z0, z1, z2, z3, z4, z5, z6, z7, z8, z9, z10, h1, z12, z13, z14]) o0 ++ wGr K h1 a1 o1) (As := [.int 0]) (rest := []) ⟨hx, hb, hml, hown, hts⟩ (xF_needState l hl9 D K _) (va_cwS 1 hts (cf_GS wv_1097 wv_1098 wv_157 wv_1099) rfl rfl rfl (by decide +kernel) ⟨Nat.le_of_ble_eq_true rfl, Nat.le_of_ble_eq_true rfl⟩) (cf_preS (wc := []) hE hP hD hS hA [] rfl (by decide +kernel)) rfl hl.1 (lv_room (Nat.le_of_ble_eq_true rfl)) dF_output_4 ⟨(xc_c (show (2 : Int32) ≠ 0 by decide)), (xc_s (show (2 : Int32) ≠ 0 by decide))⟩ hP hD hS hA [] [0, 1, 2, 3, 4, 5, 6, 7] rfl rfl (by decide +kernel) (by decide +kernel) (fun q9 ce H locs hP hD hS hce hcv hcl => ?_)
    exact xt_outF ((fF [z0, z1, z2, z3, z4, z5, z6, z7, z8, z9, z10, h1, z12, z13, z14]), (vF [(fun _ => 0), a1])) (show (2 : Int32) ≠ 0 by decide) (show xE 2 = "java/lang/IllegalStateException" from rfl) hEx hlocks hce hcv hcl (hP.sub [0, 1, 2, 3, 4, 5, 6, 7] rfl) (hD.sub [0, 1, 2, 3, 4, 5, 6, 7] (by decide +kernel) rfl) hS (xc_c (show (2 : Int32) ≠ 0 by decide)) (xc_s (show (2 : Int32) ≠ 0 by decide))
  · have h := op_f c_1 h
    refine cf_pcallv (va_runS (As := [.int (o0.1 16)]) (rest := []) ⟨hx, hb, hml, hown, hts⟩ (kn_needState l (o0.1 16) c_1) (va_cwS 1 hts (cf_GS wv_1097 wv_1098 wv_157 wv_1099) rfl rfl rfl (by decide +kernel) ⟨Nat.le_of_ble_eq_true rfl, Nat.le_of_ble_eq_true rfl⟩) preEq rfl rfl hl.1 rfl (lv_room (Nat.le_of_ble_eq_true rfl)) dF_output_4 ⟨Nat.zero_le _, Nat.zero_le _⟩) ?_
    exact bF_output_7 C _ _ _ _ h hP hD hS (lv_sub hl [0, 1] rfl)
set_option maxRecDepth 100000 in
theorem mF_output (l : Launch) (hl9 : l.stackTraces = false) (D : va_G) (K : Nat → ClassId) (sz : Nat) (v1 : Int32) (h0 : Nat) (h1 : Nat) (a1 : Nat → Nat) (z0 : Nat) (z1 : Nat) (z2 : Nat) (z3 : Nat) (z4 : Nat) (z5 : Nat) (z6 : Nat) (z7 : Nat) (z8 : Nat) (z9 : Nat) (z10 : Nat) (z12 : Nat) (z13 : Nat) (z14 : Nat) (o0 : cf_O) (o1 : cf_O) (r : Int32 × cf_O) (h : fF_output v1 o0 o1 = some r) (h0c : (r.2.1 30) = 0) : Met l yF_output (Cond.code yF_output cF_output 2 (Option.some Jvm.ClassFile.FieldType.int) :: cfB) ({ frames := 7, cells := (0 + xc (r.2.1 30)), slots := (0 + 6 * xc (r.2.1 30)), locals := 120 }) (va_Pc [.ref h0, .int v1] (cf_Pre D K sz (wF K h0 (fF [z0, z1, z2, z3, z4, z5, z6, z7, z8, z9, z10, h1, z12, z13, z14]) o0 ++ wGr K h1 a1 o1))) (va_Qi (fun (x : Int32) (_ : uF) => x = r.1) (fun (u : uF) t => cf_At D (va_A (wF K h0 (fF [z0, z1, z2, z3, z4, z5, z6, z7, z8, z9, z10, h1, z12, z13, z14]) o0 ++ wGr K h1 a1 o1) sz) (wF K h0 (fF [z0, z1, z2, z3, z4, z5, z6, z7, z8, z9, z10, h1, z12, z13, z14]) r.2 ++ wGr K h1 a1 o1) t) (va_A (wF K h0 (fF [z0, z1, z2, z3, z4, z5, z6, z7, z8, z9, z10, h1, z12, z13, z14]) o0 ++ wGr K h1 a1 o1) sz)) (0 + xc (r.2.1 30)) (0 + 6 * xc (r.2.1 30)) (va_A (wF K h0 (fF [z0, z1, z2, z3, z4, z5, z6, z7, z8, z9, z10, h1, z12, z13, z14]) o0 ++ wGr K h1 a1 o1) sz) := by
  refine cf_ofWF (y := yF_output) (As := [.ref h0, .int v1]) (WS := wF K h0 (fF [z0, z1, z2, z3, z4, z5, z6, z7, z8, z9, z10, h1, z12, z13, z14]) o0 ++ wGr K h1 a1 o1) (maxL := 2) (fun A => (va_Qi (fun (x : Int32) (_ : uF) => x = r.1) (fun (u : uF) t => cf_At D A (wF K h0 (fF [z0, z1, z2, z3, z4, z5, z6, z7, z8, z9, z10, h1, z12, z13, z14]) r.2 ++ wGr K h1 a1 o1) t) A)) (by decide) (Nat.le_of_ble_eq_true rfl) ?_
  intro p e s m below meth c A ls En hEx hNS hsz hA hP hD hE hS hl
  have C : ((dc_C p s m (([.ref h0, .int v1] : List Value).toArray) meth c cF_output 2 (Option.some Jvm.ClassFile.FieldType.int) yF_output ∧ cf_E D K A s s.heap ∧ ∀ q, s.heap.size ≤ q → A q) ∧ (∀ x ∈ c.exceptionTable.toList, False) ∧ l.stackTraces = false) := ⟨⟨En, hE, hA⟩, hEx, hl9⟩
  refine W_to (fun t9 h9 => ?_) (bF_output_0 C v1 o0 o1 r h hP hD hS hl)
  rcases h9 with h9 | h9
  · exact h9.2
  · exact absurd h0c h9.1
set_option maxRecDepth 100000 in
theorem zxF_output (l : Launch) (hl9 : l.stackTraces = false) (D : va_G) (K : Nat → ClassId) (sz : Nat) (v1 : Int32) (h0 : Nat) (h1 : Nat) (a1 : Nat → Nat) (z0 : Nat) (z1 : Nat) (z2 : Nat) (z3 : Nat) (z4 : Nat) (z5 : Nat) (z6 : Nat) (z7 : Nat) (z8 : Nat) (z9 : Nat) (z10 : Nat) (z12 : Nat) (z13 : Nat) (z14 : Nat) (o0 : cf_O) (o1 : cf_O) (r : Int32 × cf_O) (h : fF_output v1 o0 o1 = some r) (h0c : ¬ (r.2.1 30) = 0) : xt_MetG l yF_output (Cond.code yF_output cF_output 2 (Option.some Jvm.ClassFile.FieldType.int) :: cfB) ({ frames := 7, cells := (0 + xc (r.2.1 30)), slots := (0 + 6 * xc (r.2.1 30)), locals := 120 }) (va_Pc [.ref h0, .int v1] (cf_Pre D K sz (wF K h0 (fF [z0, z1, z2, z3, z4, z5, z6, z7, z8, z9, z10, h1, z12, z13, z14]) o0 ++ wGr K h1 a1 o1))) (xE (r.2.1 30)) D (fun (u : uF) => wF K h0 (fF [z0, z1, z2, z3, z4, z5, z6, z7, z8, z9, z10, h1, z12, z13, z14]) r.2 ++ wGr K h1 a1 o1) (va_A (wF K h0 (fF [z0, z1, z2, z3, z4, z5, z6, z7, z8, z9, z10, h1, z12, z13, z14]) o0 ++ wGr K h1 a1 o1) sz) (0 + xc (r.2.1 30)) (0 + 6 * xc (r.2.1 30)) := by
  refine xt_ofWG (y := yF_output) (As := [.ref h0, .int v1]) (WS := wF K h0 (fF [z0, z1, z2, z3, z4, z5, z6, z7, z8, z9, z10, h1, z12, z13, z14]) o0 ++ wGr K h1 a1 o1) (maxL := 2) (by decide) (Nat.le_of_ble_eq_true rfl) ?_
  intro p e s m below meth c A ls En hEx hNS hsz hA hP hD hE hS hl
  have C : ((dc_C p s m (([.ref h0, .int v1] : List Value).toArray) meth c cF_output 2 (Option.some Jvm.ClassFile.FieldType.int) yF_output ∧ cf_E D K A s s.heap ∧ ∀ q, s.heap.size ≤ q → A q) ∧ (∀ x ∈ c.exceptionTable.toList, False) ∧ l.stackTraces = false) := ⟨⟨En, hE, hA⟩, hEx, hl9⟩
  refine W_to (fun t9 h9 => ?_) (bF_output_0 C v1 o0 o1 r h hP hD hS hl)
  rcases h9 with h9 | h9
  · exact absurd h9.1 h0c
  · exact h9.2
def IhF_value (p : Program) (l : Launch) (e : Env) (s : State) (m : MethodId) (below : List Frame) (meth : Method) (c : Code) (A : Nat → Prop) (D : va_G) (K : Nat → ClassId) (h0 : Nat) (AR : Array Value) (n : Nat) : Prop := (∀ (v1 : Int32) (v2 : Int32) (v3 : Int32) (o0 : cf_O) (o1 : cf_O) (o2 : cf_O) (r : Int32 × cf_O × cf_O), gF_value n 0 v1 v2 v3 o0 o1 o2 = some r → ∀ {h1 h2 z0 z2 z3 z4 z5 z6 z7 z8 z9 z10 z12 z13 z14 : Nat} {a1 a2 : Nat → Nat} {H : Heap} {locs : List Loc} {ls : Array Slot}, (va_P D vwCl (wF K h0 (fF [z0, h1, z2, z3, z4, z5, z6, z7, z8, z9, z10, h2, z12, z13, z14]) o0 ++ wFu K h1 a1 o1 ++ wGr K h2 a2 o2) H) → (va_D A (wF K h0 (fF [z0, h1, z2, z3, z4, z5, z6, z7, z8, z9, z10, h2, z12, z13, z14]) o0 ++ wFu K h1 a1 o1 ++ wGr K h2 a2 o2)) → va_S A s.heap H locs → lv_has ls 4 [(0, .ref h0), (1, .int v1), (2, .int v2), (3, .int v3)] → W p l e ({ frames := 7, cells := (0 + xc (r.2.1.1 30)), slots := (0 + 6 * xc (r.2.1.1 30)), locals := 120 }) s m AR below meth c H locs 0 0 (xq below (r.2.1.1 30) (va_Qi (fun (x : Int32) (_ : uF) => x = r.1) (fun (u : uF) t => cf_At D A (wF K h0 (fF [z0, h1, z2, z3, z4, z5, z6, z7, z8, z9, z10, h2, z12, z13, z14]) r.2.1 ++ wFu K h1 a1 r.2.2 ++ wGr K h2 a2 o2) t) A) D (fun (u : uF) => wF K h0 (fF [z0, h1, z2, z3, z4, z5, z6, z7, z8, z9, z10, h2, z12, z13, z14]) r.2.1 ++ wFu K h1 a1 r.2.2 ++ wGr K h2 a2 o2) A AR s (0 + xc (r.2.1.1 30)) (0 + 6 * xc (r.2.1.1 30))) (F0 m 42 ls []))
set_option maxHeartbeats 4000000 in
set_option maxRecDepth 100000 in
theorem bF_value_71 {p : Program} {l : Launch} {e : Env} {s : State} {m : MethodId} {below : List Frame} {meth : Method} {c : Code} {A : Nat → Prop} {D : va_G} {K : Nat → ClassId} {h0 : Nat} {AR : Array Value} (C : ((dc_C p s m AR meth c cF_value 4 (Option.some Jvm.ClassFile.FieldType.int) yF_value ∧ cf_E D K A s s.heap ∧ ∀ q, s.heap.size ≤ q → A q) ∧ (∀ x ∈ c.exceptionTable.toList, False) ∧ l.stackTraces = false)) {n : Nat} (ih : IhF_value p l e s m below meth c A D K h0 AR n) (v1 : Int32) (v3 : Int32) (s0 : Int32) (s1 : Int32) (o0 : cf_O) (o1 : cf_O) (o2 : cf_O) (r : Int32 × cf_O × cf_O) (h : fF_value_71 (gF_value n) v1 v3 s0 s1 o0 o1 o2 = some r) {h1 h2 z0 z2 z3 z4 z5 z6 z7 z8 z9 z10 z12 z13 z14 : Nat} {a1 a2 : Nat → Nat} {H : Heap} {locs : List Loc} {ls : Array Slot} (hP : va_P D vwCl (wF K h0 (fF [z0, h1, z2, z3, z4, z5, z6, z7, z8, z9, z10, h2, z12, z13, z14]) o0 ++ wFu K h1 a1 o1 ++ wGr K h2 a2 o2) H) (hD : va_D A (wF K h0 (fF [z0, h1, z2, z3, z4, z5, z6, z7, z8, z9, z10, h2, z12, z13, z14]) o0 ++ wFu K h1 a1 o1 ++ wGr K h2 a2 o2)) (hS : va_S A s.heap H locs) (hl : lv_has ls 4 [(0, .ref h0), (1, .int v1), (3, .int v3)]) : W p l e ({ frames := 7, cells := (0 + xc (r.2.1.1 30)), slots := (0 + 6 * xc (r.2.1.1 30)), locals := 120 }) s m AR below meth c H locs 0 0 (xq below (r.2.1.1 30) (va_Qi (fun (x : Int32) (_ : uF) => x = r.1) (fun (u : uF) t => cf_At D A (wF K h0 (fF [z0, h1, z2, z3, z4, z5, z6, z7, z8, z9, z10, h2, z12, z13, z14]) r.2.1 ++ wFu K h1 a1 r.2.2 ++ wGr K h2 a2 o2) t) A) D (fun (u : uF) => wF K h0 (fF [z0, h1, z2, z3, z4, z5, z6, z7, z8, z9, z10, h2, z12, z13, z14]) r.2.1 ++ wFu K h1 a1 r.2.2 ++ wGr K h2 a2 o2) A AR s (0 + xc (r.2.1.1 30)) (0 + 6 * xc (r.2.1.1 30))) (F0 m 71 ls [.int s1, .int s0]) := by
  have hEx := C.2.1
  have hl9 := C.2.2
  obtain ⟨⟨hx, hb, hr, hts, hown, hlocks, hin, hml⟩, hE, hA⟩ := id C.1
  have hK := hE.k
  refine lv_iload_n hx hb dF_value_71 rfl (lv_at hl 2 rfl) ?_
  refine lv_ishl hx hb dF_value_72 ?_
  refine lv_topi (fun x_1 ex_1 => ?_)
  have h := op_ks ex_1 h
  refine lv_ior hx hb dF_value_73 ?_
  refine lv_topi (fun x_2 ex_2 => ?_)
  have h := op_ks ex_2 h
  refine lv_istore_n (lv' := [(2, .int x_2), (0, .ref h0), (1, .int v1), (3, .int v3)]) hx hb dF_value_74 rfl hl (by decide) rfl (fun ls hl => ?_)
  obtain ⟨x_3, ex_3⟩ : ∃ y : Int32, y = v3 + 1 := ⟨_, rfl⟩
  refine lv_iinc (v := x_3) (lv' := [(3, .int x_3), (2, .int x_2), (0, .ref h0), (1, .int v1)]) hx hb dF_value_75 hl (k := 3) rfl (by rw [ex_3]; rfl) (by decide) rfl (fun ls hl => ?_)
  have h := op_ks ex_3 h
  refine lv_goto (tgt := 42) hx hb dF_value_78 (by decide) ?_
  exact (ih) _ _ _ _ _ _ _ h hP hD hS (lv_sub hl [2, 3, 1, 0] rfl)
set_option maxHeartbeats 4000000 in
set_option maxRecDepth 100000 in
theorem bF_value_42 {p : Program} {l : Launch} {e : Env} {s : State} {m : MethodId} {below : List Frame} {meth : Method} {c : Code} {A : Nat → Prop} {D : va_G} {K : Nat → ClassId} {h0 : Nat} {AR : Array Value} (C : ((dc_C p s m AR meth c cF_value 4 (Option.some Jvm.ClassFile.FieldType.int) yF_value ∧ cf_E D K A s s.heap ∧ ∀ q, s.heap.size ≤ q → A q) ∧ (∀ x ∈ c.exceptionTable.toList, False) ∧ l.stackTraces = false)) {n : Nat} (ih : IhF_value p l e s m below meth c A D K h0 AR n) (v1 : Int32) (v2 : Int32) (v3 : Int32) (o0 : cf_O) (o1 : cf_O) (o2 : cf_O) (r : Int32 × cf_O × cf_O) (h : fF_value_42 (gF_value n) v1 v2 v3 o0 o1 o2 = some r) {h1 h2 z0 z2 z3 z4 z5 z6 z7 z8 z9 z10 z12 z13 z14 : Nat} {a1 a2 : Nat → Nat} {H : Heap} {locs : List Loc} {ls : Array Slot} (hP : va_P D vwCl (wF K h0 (fF [z0, h1, z2, z3, z4, z5, z6, z7, z8, z9, z10, h2, z12, z13, z14]) o0 ++ wFu K h1 a1 o1 ++ wGr K h2 a2 o2) H) (hD : va_D A (wF K h0 (fF [z0, h1, z2, z3, z4, z5, z6, z7, z8, z9, z10, h2, z12, z13, z14]) o0 ++ wFu K h1 a1 o1 ++ wGr K h2 a2 o2)) (hS : va_S A s.heap H locs) (hl : lv_has ls 4 [(0, .ref h0), (1, .int v1), (2, .int v2), (3, .int v3)]) : W p l e ({ frames := 7, cells := (0 + xc (r.2.1.1 30)), slots := (0 + 6 * xc (r.2.1.1 30)), locals := 120 }) s m AR below meth c H locs 0 0 (xq below (r.2.1.1 30) (va_Qi (fun (x : Int32) (_ : uF) => x = r.1) (fun (u : uF) t => cf_At D A (wF K h0 (fF [z0, h1, z2, z3, z4, z5, z6, z7, z8, z9, z10, h2, z12, z13, z14]) r.2.1 ++ wFu K h1 a1 r.2.2 ++ wGr K h2 a2 o2) t) A) D (fun (u : uF) => wF K h0 (fF [z0, h1, z2, z3, z4, z5, z6, z7, z8, z9, z10, h2, z12, z13, z14]) r.2.1 ++ wFu K h1 a1 r.2.2 ++ wGr K h2 a2 o2) A AR s (0 + xc (r.2.1.1 30)) (0 + 6 * xc (r.2.1.1 30))) (F0 m 42 ls []) := by
  have hEx := C.2.1
  have hl9 := C.2.2
  obtain ⟨⟨hx, hb, hr, hts, hown, hlocks, hin, hml⟩, hE, hA⟩ := id C.1
  have hK := hE.k
  refine lv_iload_n hx hb dF_value_42 rfl (lv_at hl 3 rfl) ?_
  refine lv_aload_n hx hb dF_value_43 rfl (lv_at hl 0 rfl) ?_
  refine va_get (D := D) (ci := 0) (v := .ref h2) (C := RF) (T := TF) (N := 19) hx hb hts inF hown hK hP 0 rfl rfl 11 (by decide) (hts _ wv_672) (fun _ h9 => h9) rfl dF_value_44 ?_
  refine va_get (D := D) (ci := 3) (v := .int (o2.1 1)) (C := RGr) (T := TGr) (N := 10) hx hb hts inGr hown hK hP 6 rfl rfl 1 (by decide) (hts _ wv_555) (fun _ h9 => h9) rfl dF_value_47 ?_
  refine lv_icmp_ge (tgt := 81) hx hb dF_value_50 (by decide) (fun c_1 => ?_) (fun c_1 => ?_)
  · have h := op_t c_1 h
    refine lv_iload_n hx hb dF_value_81 rfl (lv_at hl 2 rfl) ?_
    obtain rfl := Option.some.inj h
    exact dc_iretF ((fF [z0, h1, z2, z3, z4, z5, z6, z7, z8, z9, z10, h2, z12, z13, z14]), (vF [(fun _ => 0), a1, a2])) rfl hx hb hr hlocks rfl (hP.sub [0, 1, 2, 3, 4, 5, 6, 7, 8, 9, 10, 11, 12] rfl) (hD.sub [0, 1, 2, 3, 4, 5, 6, 7, 8, 9, 10, 11, 12] (by decide +kernel) rfl) hS (Nat.zero_le _) (Nat.zero_le _) dF_value_82
  · have h := op_f c_1 h
    refine lv_iload_n hx hb dF_value_53 rfl (lv_at hl 2 rfl) ?_
    refine lv_aload_n hx hb dF_value_54 rfl (lv_at hl 0 rfl) ?_
    refine va_get (D := D) (ci := 0) (v := .ref h1) (C := RF) (T := TF) (N := 19) hx hb hts inF hown hK hP 0 rfl rfl 1 (by decide) (hts _ wv_662) (fun _ h9 => h9) rfl dF_value_55 ?_
    refine lv_aload_n hx hb dF_value_58 rfl (lv_at hl 0 rfl) ?_
    refine va_get (D := D) (ci := 0) (v := .ref h2) (C := RF) (T := TF) (N := 19) hx hb hts inF hown hK hP 0 rfl rfl 11 (by decide) (hts _ wv_672) (fun _ h9 => h9) rfl dF_value_59 ?_
    refine va_get (D := D) (ci := 3) (v := .ref (a2 7)) (C := RGr) (T := TGr) (N := 10) hx hb hts inGr hown hK hP 6 rfl rfl 7 (by decide) (hts _ wv_579) (fun _ h9 => h9) rfl dF_value_62 ?_
    refine lv_iload_n hx hb dF_value_65 rfl (lv_at hl 3 rfl) ?_
    obtain ⟨hi_2, h⟩ := op_n h
    refine va_iald (D := D) hx hb hK hP 10 0 rfl rfl hi_2 dF_value_66 ?_
    refine lv_topi (fun x_3 ex_3 => ?_)
    have h := op_ks ex_3 h
    refine lv_iload_n hx hb dF_value_67 rfl (lv_at hl 1 rfl) ?_
    obtain ⟨q_4, hq_4, h⟩ := op_b h
    refine cf_calli (wc := wFu K h1 a1 o1) (wr := wF K h0 (fF [z0, h1, z2, z3, z4, z5, z6, z7, z8, z9, z10, h2, z12, z13, z14]) o0 ++ wGr K h2 a2 o2) (va_runV (As := [.int x_3, .int v1]) (rest := [.int v2]) ⟨hx, hb, hml, hown, hts⟩ (mFu_bit l D K _ x_3 v1 h1 a1 o1 _ hq_4) (cwV 2 hts (cf_GV wv_1177 wv_1178 wv_1179 wv_159 wv_1180) rfl rfl rfl (by decide +kernel) ⟨Nat.le_of_ble_eq_true rfl, Nat.le_of_ble_eq_true rfl⟩) (cf_preV (wc := wFu K h1 a1 o1) hE hP hD hS hA rfl 1 rfl [1, 2, 3, 4, 5] rfl (by decide +kernel)) rfl rfl hl.1 rfl (lv_room (Nat.le_of_ble_eq_true rfl)) dF_value_68 ⟨Nat.zero_le _, Nat.zero_le _⟩) hP hD hS hA [1, 2, 3, 4, 5] [0, 6, 7, 8, 9, 10, 11, 12] rfl rfl (by decide +kernel) (by decide +kernel) (fun r_5 _ H locs hw_6 hP hD hS => ?_)
    subst r_5
    have hP : va_P D vwCl (wF K h0 (fF [z0, h1, z2, z3, z4, z5, z6, z7, z8, z9, z10, h2, z12, z13, z14]) o0 ++ wFu K h1 a1 o1 ++ wGr K h2 a2 o2) H := hP.sub [0, 8, 9, 10, 11, 12, 1, 2, 3, 4, 5, 6, 7] rfl
    have hD : va_D A (wF K h0 (fF [z0, h1, z2, z3, z4, z5, z6, z7, z8, z9, z10, h2, z12, z13, z14]) o0 ++ wFu K h1 a1 o1 ++ wGr K h2 a2 o2) := hD.sub [0, 8, 9, 10, 11, 12, 1, 2, 3, 4, 5, 6, 7] (by decide +kernel) rfl
    exact bF_value_71 C ih _ _ _ _ _ _ _ _ h hP hD hS (lv_sub hl [0, 1, 3] rfl)
set_option maxHeartbeats 4000000 in
set_option maxRecDepth 100000 in
theorem bF_value_38 {p : Program} {l : Launch} {e : Env} {s : State} {m : MethodId} {below : List Frame} {meth : Method} {c : Code} {A : Nat → Prop} {D : va_G} {K : Nat → ClassId} {h0 : Nat} {AR : Array Value} (C : ((dc_C p s m AR meth c cF_value 4 (Option.some Jvm.ClassFile.FieldType.int) yF_value ∧ cf_E D K A s s.heap ∧ ∀ q, s.heap.size ≤ q → A q) ∧ (∀ x ∈ c.exceptionTable.toList, False) ∧ l.stackTraces = false)) {n : Nat} (ih : IhF_value p l e s m below meth c A D K h0 AR n) (v1 : Int32) (o0 : cf_O) (o1 : cf_O) (o2 : cf_O) (r : Int32 × cf_O × cf_O) (h : fF_value_38 (gF_value n) v1 o0 o1 o2 = some r) {h1 h2 z0 z2 z3 z4 z5 z6 z7 z8 z9 z10 z12 z13 z14 : Nat} {a1 a2 : Nat → Nat} {H : Heap} {locs : List Loc} {ls : Array Slot} (hP : va_P D vwCl (wF K h0 (fF [z0, h1, z2, z3, z4, z5, z6, z7, z8, z9, z10, h2, z12, z13, z14]) o0 ++ wFu K h1 a1 o1 ++ wGr K h2 a2 o2) H) (hD : va_D A (wF K h0 (fF [z0, h1, z2, z3, z4, z5, z6, z7, z8, z9, z10, h2, z12, z13, z14]) o0 ++ wFu K h1 a1 o1 ++ wGr K h2 a2 o2)) (hS : va_S A s.heap H locs) (hl : lv_has ls 4 [(0, .ref h0), (1, .int v1)]) : W p l e ({ frames := 7, cells := (0 + xc (r.2.1.1 30)), slots := (0 + 6 * xc (r.2.1.1 30)), locals := 120 }) s m AR below meth c H locs 0 0 (xq below (r.2.1.1 30) (va_Qi (fun (x : Int32) (_ : uF) => x = r.1) (fun (u : uF) t => cf_At D A (wF K h0 (fF [z0, h1, z2, z3, z4, z5, z6, z7, z8, z9, z10, h2, z12, z13, z14]) r.2.1 ++ wFu K h1 a1 r.2.2 ++ wGr K h2 a2 o2) t) A) D (fun (u : uF) => wF K h0 (fF [z0, h1, z2, z3, z4, z5, z6, z7, z8, z9, z10, h2, z12, z13, z14]) r.2.1 ++ wFu K h1 a1 r.2.2 ++ wGr K h2 a2 o2) A AR s (0 + xc (r.2.1.1 30)) (0 + 6 * xc (r.2.1.1 30))) (F0 m 38 ls []) := by
  have hEx := C.2.1
  have hl9 := C.2.2
  obtain ⟨⟨hx, hb, hr, hts, hown, hlocks, hin, hml⟩, hE, hA⟩ := id C.1
  have hK := hE.k
  refine lv_iconst (v := 0) hx hb dF_value_38 (by decide) ?_
  refine lv_istore_n (lv' := [(2, .int 0), (0, .ref h0), (1, .int v1)]) hx hb dF_value_39 rfl hl (by decide) rfl (fun ls hl => ?_)
  refine lv_iconst (v := 0) hx hb dF_value_40 (by decide) ?_
  refine lv_istore_n (lv' := [(3, .int 0), (2, .int 0), (0, .ref h0), (1, .int v1)]) hx hb dF_value_41 rfl hl (by decide) rfl (fun ls hl => ?_)
  exact (ih) _ _ _ _ _ _ _ h hP hD hS (lv_sub hl [2, 3, 1, 0] rfl)
set_option maxHeartbeats 4000000 in
set_option maxRecDepth 100000 in
theorem bF_value_7 {p : Program} {l : Launch} {e : Env} {s : State} {m : MethodId} {below : List Frame} {meth : Method} {c : Code} {A : Nat → Prop} {D : va_G} {K : Nat → ClassId} {h0 : Nat} {AR : Array Value} (C : ((dc_C p s m AR meth c cF_value 4 (Option.some Jvm.ClassFile.FieldType.int) yF_value ∧ cf_E D K A s s.heap ∧ ∀ q, s.heap.size ≤ q → A q) ∧ (∀ x ∈ c.exceptionTable.toList, False) ∧ l.stackTraces = false)) {n : Nat} (ih : IhF_value p l e s m below meth c A D K h0 AR n) (v1 : Int32) (o0 : cf_O) (o1 : cf_O) (o2 : cf_O) (r : Int32 × cf_O × cf_O) (h : fF_value_7 (gF_value n) v1 o0 o1 o2 = some r) {h1 h2 z0 z2 z3 z4 z5 z6 z7 z8 z9 z10 z12 z13 z14 : Nat} {a1 a2 : Nat → Nat} {H : Heap} {locs : List Loc} {ls : Array Slot} (hP : va_P D vwCl (wF K h0 (fF [z0, h1, z2, z3, z4, z5, z6, z7, z8, z9, z10, h2, z12, z13, z14]) o0 ++ wFu K h1 a1 o1 ++ wGr K h2 a2 o2) H) (hD : va_D A (wF K h0 (fF [z0, h1, z2, z3, z4, z5, z6, z7, z8, z9, z10, h2, z12, z13, z14]) o0 ++ wFu K h1 a1 o1 ++ wGr K h2 a2 o2)) (hS : va_S A s.heap H locs) (hl : lv_has ls 4 [(0, .ref h0), (1, .int v1)]) : W p l e ({ frames := 7, cells := (0 + xc (r.2.1.1 30)), slots := (0 + 6 * xc (r.2.1.1 30)), locals := 120 }) s m AR below meth c H locs 0 0 (xq below (r.2.1.1 30) (va_Qi (fun (x : Int32) (_ : uF) => x = r.1) (fun (u : uF) t => cf_At D A (wF K h0 (fF [z0, h1, z2, z3, z4, z5, z6, z7, z8, z9, z10, h2, z12, z13, z14]) r.2.1 ++ wFu K h1 a1 r.2.2 ++ wGr K h2 a2 o2) t) A) D (fun (u : uF) => wF K h0 (fF [z0, h1, z2, z3, z4, z5, z6, z7, z8, z9, z10, h2, z12, z13, z14]) r.2.1 ++ wFu K h1 a1 r.2.2 ++ wGr K h2 a2 o2) A AR s (0 + xc (r.2.1.1 30)) (0 + 6 * xc (r.2.1.1 30))) (F0 m 7 ls []) := by
  have hEx := C.2.1
  have hl9 := C.2.2
  obtain ⟨⟨hx, hb, hr, hts, hown, hlocks, hin, hml⟩, hE, hA⟩ := id C.1
  have hK := hE.k
  refine lv_iload_n hx hb dF_value_7 rfl (lv_at hl 1 rfl) ?_
  refine lv_aload_n hx hb dF_value_8 rfl (lv_at hl 0 rfl) ?_
  refine va_get (D := D) (ci := 0) (v := .ref h2) (C := RF) (T := TF) (N := 19) hx hb hts inF hown hK hP 0 rfl rfl 11 (by decide) (hts _ wv_672) (fun _ h9 => h9) rfl dF_value_9 ?_
  refine va_get (D := D) (ci := 3) (v := .int (o2.1 0)) (C := RGr) (T := TGr) (N := 10) hx hb hts inGr hown hK hP 6 rfl rfl 0 (by decide) (hts _ wv_550) (fun _ h9 => h9) rfl dF_value_12 ?_
  refine lv_iushr hx hb dF_value_15 rfl ?_
  refine lv_topi (fun x_1 ex_1 => ?_)
  have h := op_ks ex_1 h
  refine lv_if_eq (tgt := 27) hx hb dF_value_16 (by decide) (fun c_2 => ?_) (fun c_2 => ?_)
  · have h := op_t c_2 h
    refine lv_aload_n hx hb dF_value_27 rfl (lv_at hl 0 rfl) ?_
    refine va_get (D := D) (ci := 0) (v := .ref h1) (C := RF) (T := TF) (N := 19) hx hb hts inF hown hK hP 0 rfl rfl 1 (by decide) (hts _ wv_662) (fun _ h9 => h9) rfl dF_value_28 ?_
    refine lv_aload_n hx hb dF_value_31 rfl (lv_at hl 0 rfl) ?_
    refine va_get (D := D) (ci := 0) (v := .ref h2) (C := RF) (T := TF) (N := 19) hx hb hts inF hown hK hP 0 rfl rfl 11 (by decide) (hts _ wv_672) (fun _ h9 => h9) rfl dF_value_32 ?_
    obtain ⟨q_3, hq_3, h⟩ := op_b h
    refine cf_callv (wc := wFu K h1 a1 o1 ++ wGr K h2 a2 o2) (wr := wF K h0 (fF [z0, h1, z2, z3, z4, z5, z6, z7, z8, z9, z10, h2, z12, z13, z14]) o0) (va_runV (As := [.ref h2]) (rest := []) ⟨hx, hb, hml, hown, hts⟩ (mFu_find l D K _ h1 a1 h2 a2 o1 o2 _ hq_3) (cwV 1 hts (cf_GV wv_1163 wv_1164 wv_1165 wv_159 wv_1166) rfl rfl rfl (by decide +kernel) ⟨Nat.le_of_ble_eq_true rfl, Nat.le_of_ble_eq_true rfl⟩) (cf_preV (wc := wFu K h1 a1 o1 ++ wGr K h2 a2 o2) hE hP hD hS hA rfl 1 rfl [1, 2, 3, 4, 5, 6, 7, 8, 9, 10, 11, 12] rfl (by decide +kernel)) rfl rfl hl.1 rfl (lv_room (Nat.le_of_ble_eq_true rfl)) dF_value_35 ⟨Nat.zero_le _, Nat.zero_le _⟩) hP hD hS hA [1, 2, 3, 4, 5, 6, 7, 8, 9, 10, 11, 12] [0] rfl rfl (by decide +kernel) (by decide +kernel) (fun _ H locs hw_4 hP hD hS => ?_)
    have hP : va_P D vwCl (wF K h0 (fF [z0, h1, z2, z3, z4, z5, z6, z7, z8, z9, z10, h2, z12, z13, z14]) o0 ++ wFu K h1 a1 q_3 ++ wGr K h2 a2 o2) H := hP.sub [0, 1, 2, 3, 4, 5, 6, 7, 8, 9, 10, 11, 12] rfl
    have hD : va_D A (wF K h0 (fF [z0, h1, z2, z3, z4, z5, z6, z7, z8, z9, z10, h2, z12, z13, z14]) o0 ++ wFu K h1 a1 q_3 ++ wGr K h2 a2 o2) := hD.sub [0, 1, 2, 3, 4, 5, 6, 7, 8, 9, 10, 11, 12] (by decide +kernel) rfl
    exact bF_value_38 C ih _ _ _ _ _ h hP hD hS (lv_sub hl [0, 1] rfl)
  · have h := op_f c_2 h
    obtain rfl := Option.some.inj h
    exact xt_throwF (K := K) (E := "java/lang/IllegalArgumentException") (own := "CellForge") (names := ["java/lang/RuntimeException", "java/lang/Exception"]) (ik := 106) (ic := 108) ((fF [z0, h1, z2, z3, z4, z5, z6, z7, z8, z9, z10, h2, z12, z13, z14]), (vF [(fun _ => 0), a1, a2])) (show (1 : Int32) ≠ 0 by decide) (show xE 1 = "java/lang/IllegalArgumentException" from rfl) hx hb hl9 hown (by decide +kernel) (by decide +kernel) wv_865 wv_177 hts (fun s9 hts9 hE9 => xt_atoms hts9 hE9 (by decide +kernel)) hE (hP.sub [0, 1, 2, 3, 4, 5, 6, 7, 8, 9, 10, 11, 12] rfl) (hD.sub [0, 1, 2, 3, 4, 5, 6, 7, 8, 9, 10, 11, 12] (by decide +kernel) rfl) hS hA (hl.1.trans hml.symm) dF_value_19 dF_value_22 dF_value_23 dF_value_26 hEx hlocks (Nat.le_of_ble_eq_true rfl) (Nat.le_of_ble_eq_true rfl) (xc_c (show (1 : Int32) ≠ 0 by decide)) (xc_s (show (1 : Int32) ≠ 0 by decide)) (xc_c (show (1 : Int32) ≠ 0 by decide)) (xc_s (show (1 : Int32) ≠ 0 by decide))
set_option maxHeartbeats 4000000 in
set_option maxRecDepth 100000 in
theorem bF_value_0 {p : Program} {l : Launch} {e : Env} {s : State} {m : MethodId} {below : List Frame} {meth : Method} {c : Code} {A : Nat → Prop} {D : va_G} {K : Nat → ClassId} {h0 : Nat} {AR : Array Value} (C : ((dc_C p s m AR meth c cF_value 4 (Option.some Jvm.ClassFile.FieldType.int) yF_value ∧ cf_E D K A s s.heap ∧ ∀ q, s.heap.size ≤ q → A q) ∧ (∀ x ∈ c.exceptionTable.toList, False) ∧ l.stackTraces = false)) {n : Nat} (ih : IhF_value p l e s m below meth c A D K h0 AR n) (v1 : Int32) (o0 : cf_O) (o1 : cf_O) (o2 : cf_O) (r : Int32 × cf_O × cf_O) (h : fF_value_0 (gF_value n) v1 o0 o1 o2 = some r) {h1 h2 z0 z2 z3 z4 z5 z6 z7 z8 z9 z10 z12 z13 z14 : Nat} {a1 a2 : Nat → Nat} {H : Heap} {locs : List Loc} {ls : Array Slot} (hP : va_P D vwCl (wF K h0 (fF [z0, h1, z2, z3, z4, z5, z6, z7, z8, z9, z10, h2, z12, z13, z14]) o0 ++ wFu K h1 a1 o1 ++ wGr K h2 a2 o2) H) (hD : va_D A (wF K h0 (fF [z0, h1, z2, z3, z4, z5, z6, z7, z8, z9, z10, h2, z12, z13, z14]) o0 ++ wFu K h1 a1 o1 ++ wGr K h2 a2 o2)) (hS : va_S A s.heap H locs) (hl : lv_has ls 4 [(0, .ref h0), (1, .int v1)]) : W p l e ({ frames := 7, cells := (0 + xc (r.2.1.1 30)), slots := (0 + 6 * xc (r.2.1.1 30)), locals := 120 }) s m AR below meth c H locs 0 0 (xq below (r.2.1.1 30) (va_Qi (fun (x : Int32) (_ : uF) => x = r.1) (fun (u : uF) t => cf_At D A (wF K h0 (fF [z0, h1, z2, z3, z4, z5, z6, z7, z8, z9, z10, h2, z12, z13, z14]) r.2.1 ++ wFu K h1 a1 r.2.2 ++ wGr K h2 a2 o2) t) A) D (fun (u : uF) => wF K h0 (fF [z0, h1, z2, z3, z4, z5, z6, z7, z8, z9, z10, h2, z12, z13, z14]) r.2.1 ++ wFu K h1 a1 r.2.2 ++ wGr K h2 a2 o2) A AR s (0 + xc (r.2.1.1 30)) (0 + 6 * xc (r.2.1.1 30))) (F0 m 0 ls []) := by
  have hEx := C.2.1
  have hl9 := C.2.2
  obtain ⟨⟨hx, hb, hr, hts, hown, hlocks, hin, hml⟩, hE, hA⟩ := id C.1
  have hK := hE.k
  refine lv_aload_n hx hb dF_value_0 rfl (lv_at hl 0 rfl) ?_
  refine va_get (D := D) (ci := 0) (v := .int (o0.1 16)) (C := RF) (T := TF) (N := 19) hx hb hts inF hown hK hP 0 rfl rfl 16 (by decide) (hts _ wv_677) (fun _ h9 => h9) rfl dF_value_1 ?_
  rcases Classical.em ((o0.1 16) = 0) with c_1 | c_1
  · have h := op_t c_1 h
    obtain rfl := Option.some.inj h
    rw [c_1]
    refine xt_callS (wc := []) (wr := wF K h0 (fF [z0, h1, z2, z3, z4, z5, z6, z7, z8, z9, z10, h2, z12, z13, z14]) o0 ++ wFu K h1 a1 o1 ++ wGr K h2 a2 o2) (As := [.int 0]) (rest := []) ⟨hx, hb, hml, hown, hts⟩ (xF_needState l hl9 D K _) (va_cwS 1 hts (cf_GS wv_1097 wv_1098 wv_157 wv_1099) rfl rfl rfl (by decide +kernel) ⟨Nat.le_of_ble_eq_true rfl, Nat.le_of_ble_eq_true rfl⟩) (cf_preS (wc := []) hE hP hD hS hA [] rfl (by decide +kernel)) rfl hl.1 (lv_room (Nat.le_of_ble_eq_true rfl)) dF_value_4 ⟨(xc_c (show (2 : Int32) ≠ 0 by decide)), (xc_s (show (2 : Int32) ≠ 0 by decide))⟩ hP hD hS hA [] [0, 1, 2, 3, 4, 5, 6, 7, 8, 9, 10, 11, 12] rfl rfl (by decide +kernel) (by decide +kernel) (fun q9 ce H locs hP hD hS hce hcv hcl => ?_)
    exact xt_outF ((fF [z0, h1, z2, z3, z4, z5, z6, z7, z8, z9, z10, h2, z12, z13, z14]), (vF [(fun _ => 0), a1, a2])) (show (2 : Int32) ≠ 0 by decide) (show xE 2 = "java/lang/IllegalStateException" from rfl) hEx hlocks hce hcv hcl (hP.sub [0, 1, 2, 3, 4, 5, 6, 7, 8, 9, 10, 11, 12] rfl) (hD.sub [0, 1, 2, 3, 4, 5, 6, 7, 8, 9, 10, 11, 12] (by decide +kernel) rfl) hS (xc_c (show (2 : Int32) ≠ 0 by decide)) (xc_s (show (2 : Int32) ≠ 0 by decide))
  · have h := op_f c_1 h
    refine cf_pcallv (va_runS (As := [.int (o0.1 16)]) (rest := []) ⟨hx, hb, hml, hown, hts⟩ (kn_needState l (o0.1 16) c_1) (va_cwS 1 hts (cf_GS wv_1097 wv_1098 wv_157 wv_1099) rfl rfl rfl (by decide +kernel) ⟨Nat.le_of_ble_eq_true rfl, Nat.le_of_ble_eq_true rfl⟩) preEq rfl rfl hl.1 rfl (lv_room (Nat.le_of_ble_eq_true rfl)) dF_value_4 ⟨Nat.zero_le _, Nat.zero_le _⟩) ?_
    exact bF_value_7 C ih _ _ _ _ _ h hP hD hS (lv_sub hl [0, 1] rfl)
theorem iiF_value {p : Program} {l : Launch} {e : Env} {s : State} {m : MethodId} {below : List Frame} {meth : Method} {c : Code} {A : Nat → Prop} {D : va_G} {K : Nat → ClassId} {h0 : Nat} {AR : Array Value} (C : ((dc_C p s m AR meth c cF_value 4 (Option.some Jvm.ClassFile.FieldType.int) yF_value ∧ cf_E D K A s s.heap ∧ ∀ q, s.heap.size ≤ q → A q) ∧ (∀ x ∈ c.exceptionTable.toList, False) ∧ l.stackTraces = false)) : ∀ n, IhF_value p l e s m below meth c A D K h0 AR n := by
  intro n
  induction n with
  | zero => exact (fun _ _ _ _ _ _ r h => by cases (show none = some r from h))
  | succ n ih => exact fun x0 x1 x2 x3 x4 x5 r h _ _ _ _ _ _ _ _ _ _ _ _ _ _ _ _ _ _ _ _ hP hD hS hl => bF_value_42 C ih x0 x1 x2 x3 x4 x5 r h hP hD hS hl
set_option maxRecDepth 100000 in
theorem mF_value (l : Launch) (hl9 : l.stackTraces = false) (D : va_G) (K : Nat → ClassId) (sz : Nat) (v1 : Int32) (h0 : Nat) (h1 : Nat) (a1 : Nat → Nat) (h2 : Nat) (a2 : Nat → Nat) (z0 : Nat) (z2 : Nat) (z3 : Nat) (z4 : Nat) (z5 : Nat) (z6 : Nat) (z7 : Nat) (z8 : Nat) (z9 : Nat) (z10 : Nat) (z12 : Nat) (z13 : Nat) (z14 : Nat) (o0 : cf_O) (o1 : cf_O) (o2 : cf_O) (r : Int32 × cf_O × cf_O) (h : fF_value v1 o0 o1 o2 = some r) (h0c : (r.2.1.1 30) = 0) : Met l yF_value (Cond.code yF_value cF_value 4 (Option.some Jvm.ClassFile.FieldType.int) :: cfB) ({ frames := 7, cells := (0 + xc (r.2.1.1 30)), slots := (0 + 6 * xc (r.2.1.1 30)), locals := 120 }) (va_Pc [.ref h0, .int v1] (cf_Pre D K sz (wF K h0 (fF [z0, h1, z2, z3, z4, z5, z6, z7, z8, z9, z10, h2, z12, z13, z14]) o0 ++ wFu K h1 a1 o1 ++ wGr K h2 a2 o2))) (va_Qi (fun (x : Int32) (_ : uF) => x = r.1) (fun (u : uF) t => cf_At D (va_A (wF K h0 (fF [z0, h1, z2, z3, z4, z5, z6, z7, z8, z9, z10, h2, z12, z13, z14]) o0 ++ wFu K h1 a1 o1 ++ wGr K h2 a2 o2) sz) (wF K h0 (fF [z0, h1, z2, z3, z4, z5, z6, z7, z8, z9, z10, h2, z12, z13, z14]) r.2.1 ++ wFu K h1 a1 r.2.2 ++ wGr K h2 a2 o2) t) (va_A (wF K h0 (fF [z0, h1, z2, z3, z4, z5, z6, z7, z8, z9, z10, h2, z12, z13, z14]) o0 ++ wFu K h1 a1 o1 ++ wGr K h2 a2 o2) sz)) (0 + xc (r.2.1.1 30)) (0 + 6 * xc (r.2.1.1 30)) (va_A (wF K h0 (fF [z0, h1, z2, z3, z4, z5, z6, z7, z8, z9, z10, h2, z12, z13, z14]) o0 ++ wFu K h1 a1 o1 ++ wGr K h2 a2 o2) sz) := by
  refine cf_ofWF (y := yF_value) (As := [.ref h0, .int v1]) (WS := wF K h0 (fF [z0, h1, z2, z3, z4, z5, z6, z7, z8, z9, z10, h2, z12, z13, z14]) o0 ++ wFu K h1 a1 o1 ++ wGr K h2 a2 o2) (maxL := 4) (fun A => (va_Qi (fun (x : Int32) (_ : uF) => x = r.1) (fun (u : uF) t => cf_At D A (wF K h0 (fF [z0, h1, z2, z3, z4, z5, z6, z7, z8, z9, z10, h2, z12, z13, z14]) r.2.1 ++ wFu K h1 a1 r.2.2 ++ wGr K h2 a2 o2) t) A)) (by decide) (Nat.le_of_ble_eq_true rfl) ?_
  intro p e s m below meth c A ls En hEx hNS hsz hA hP hD hE hS hl
  have C : ((dc_C p s m (([.ref h0, .int v1] : List Value).toArray) meth c cF_value 4 (Option.some Jvm.ClassFile.FieldType.int) yF_value ∧ cf_E D K A s s.heap ∧ ∀ q, s.heap.size ≤ q → A q) ∧ (∀ x ∈ c.exceptionTable.toList, False) ∧ l.stackTraces = false) := ⟨⟨En, hE, hA⟩, hEx, hl9⟩
  refine W_to (fun t9 h9 => ?_) (bF_value_0 C (iiF_value C cfFU) v1 o0 o1 o2 r h hP hD hS hl)
  rcases h9 with h9 | h9
  · exact h9.2
  · exact absurd h0c h9.1
set_option maxRecDepth 100000 in
theorem zxF_value (l : Launch) (hl9 : l.stackTraces = false) (D : va_G) (K : Nat → ClassId) (sz : Nat) (v1 : Int32) (h0 : Nat) (h1 : Nat) (a1 : Nat → Nat) (h2 : Nat) (a2 : Nat → Nat) (z0 : Nat) (z2 : Nat) (z3 : Nat) (z4 : Nat) (z5 : Nat) (z6 : Nat) (z7 : Nat) (z8 : Nat) (z9 : Nat) (z10 : Nat) (z12 : Nat) (z13 : Nat) (z14 : Nat) (o0 : cf_O) (o1 : cf_O) (o2 : cf_O) (r : Int32 × cf_O × cf_O) (h : fF_value v1 o0 o1 o2 = some r) (h0c : ¬ (r.2.1.1 30) = 0) : xt_MetG l yF_value (Cond.code yF_value cF_value 4 (Option.some Jvm.ClassFile.FieldType.int) :: cfB) ({ frames := 7, cells := (0 + xc (r.2.1.1 30)), slots := (0 + 6 * xc (r.2.1.1 30)), locals := 120 }) (va_Pc [.ref h0, .int v1] (cf_Pre D K sz (wF K h0 (fF [z0, h1, z2, z3, z4, z5, z6, z7, z8, z9, z10, h2, z12, z13, z14]) o0 ++ wFu K h1 a1 o1 ++ wGr K h2 a2 o2))) (xE (r.2.1.1 30)) D (fun (u : uF) => wF K h0 (fF [z0, h1, z2, z3, z4, z5, z6, z7, z8, z9, z10, h2, z12, z13, z14]) r.2.1 ++ wFu K h1 a1 r.2.2 ++ wGr K h2 a2 o2) (va_A (wF K h0 (fF [z0, h1, z2, z3, z4, z5, z6, z7, z8, z9, z10, h2, z12, z13, z14]) o0 ++ wFu K h1 a1 o1 ++ wGr K h2 a2 o2) sz) (0 + xc (r.2.1.1 30)) (0 + 6 * xc (r.2.1.1 30)) := by
  refine xt_ofWG (y := yF_value) (As := [.ref h0, .int v1]) (WS := wF K h0 (fF [z0, h1, z2, z3, z4, z5, z6, z7, z8, z9, z10, h2, z12, z13, z14]) o0 ++ wFu K h1 a1 o1 ++ wGr K h2 a2 o2) (maxL := 4) (by decide) (Nat.le_of_ble_eq_true rfl) ?_
  intro p e s m below meth c A ls En hEx hNS hsz hA hP hD hE hS hl
  have C : ((dc_C p s m (([.ref h0, .int v1] : List Value).toArray) meth c cF_value 4 (Option.some Jvm.ClassFile.FieldType.int) yF_value ∧ cf_E D K A s s.heap ∧ ∀ q, s.heap.size ≤ q → A q) ∧ (∀ x ∈ c.exceptionTable.toList, False) ∧ l.stackTraces = false) := ⟨⟨En, hE, hA⟩, hEx, hl9⟩
  refine W_to (fun t9 h9 => ?_) (bF_value_0 C (iiF_value C cfFU) v1 o0 o1 o2 r h hP hD hS hl)
  rcases h9 with h9 | h9
  · exact absurd h9.1 h0c
  · exact h9.2
set_option maxRecDepth 100000 in
theorem nF_balance_44 (o0 : cf_O) (o1 : cf_O) (o2 : cf_O) (o3 : cf_O) (o4 : cf_O) (o5 : cf_O) (r : Int32 × cf_O × cf_O × cf_O × cf_O × cf_O × cf_O) (h : fF_balance_44 o0 o1 o2 o3 o4 o5 = some r) : phCu o2 ≤ phCu r.2.2.2.1 := by
  have hm : phCu o2 ≤ phCu o2 := Nat.le_refl _
  obtain rfl := Option.some.inj h
  exact hm
set_option maxRecDepth 100000 in
theorem nF_balance_40 (o0 : cf_O) (o1 : cf_O) (o2 : cf_O) (o3 : cf_O) (o4 : cf_O) (o5 : cf_O) (r : Int32 × cf_O × cf_O × cf_O × cf_O × cf_O × cf_O) (h : fF_balance_40 o0 o1 o2 o3 o4 o5 = some r) : phCu o2 ≤ phCu r.2.2.2.1 := by
  have hm : phCu o2 ≤ phCu o2 := Nat.le_refl _
  obtain ⟨q_1, hq_1, h⟩ := op_b h
  have hm : phCu o2 ≤ phCu q_1.2.2 := Nat.le_trans hm (nF_takeSpareNodes _ _ _ _ hq_1)
  rcases Classical.em ((q_1.1.1 30) = 0) with c_2 | c_2
  · have h := op_t c_2 h
    exact Nat.le_trans hm (nF_balance_44 _ _ _ _ _ _ _ h)
  · have h := op_f c_2 h
    obtain rfl := Option.some.inj h
    exact hm
set_option maxRecDepth 100000 in
theorem nF_balance_37 (s0 : Int32) (o0 : cf_O) (o1 : cf_O) (o2 : cf_O) (o3 : cf_O) (o4 : cf_O) (o5 : cf_O) (r : Int32 × cf_O × cf_O × cf_O × cf_O × cf_O × cf_O) (h : fF_balance_37 s0 o0 o1 o2 o3 o4 o5 = some r) : phCu o2 ≤ phCu r.2.2.2.1 := by
  have hm : phCu o2 ≤ phCu o2 := Nat.le_refl _
  rcases Classical.em (s0 = 0) with c_1 | c_1
  · have h := op_t c_1 h
    obtain rfl := Option.some.inj h
    exact hm
  · have h := op_f c_1 h
    exact Nat.le_trans hm (nF_balance_40 _ _ _ _ _ _ _ h)
set_option maxRecDepth 100000 in
theorem nF_balance_22 (o0 : cf_O) (o1 : cf_O) (o2 : cf_O) (o3 : cf_O) (o4 : cf_O) (o5 : cf_O) (r : Int32 × cf_O × cf_O × cf_O × cf_O × cf_O × cf_O) (h : fF_balance_22 o0 o1 o2 o3 o4 o5 = some r) : phCu o2 ≤ phCu r.2.2.2.1 := by
  have hm : phCu o2 ≤ phCu o2 := Nat.le_refl _
  rcases (Classical.em ((o5.1 3) = (0 : Int32))).symm with c_1 | c_1
  · have h := op_f c_1 h
    exact Nat.le_trans hm (nF_balance_37 _ _ _ _ _ _ _ _ h)
  · have h := op_t c_1 h
    exact Nat.le_trans hm (nF_balance_37 _ _ _ _ _ _ _ _ h)
set_option maxRecDepth 100000 in
theorem nF_balance_7 (o0 : cf_O) (o1 : cf_O) (o2 : cf_O) (o3 : cf_O) (o4 : cf_O) (o5 : cf_O) (r : Int32 × cf_O × cf_O × cf_O × cf_O × cf_O × cf_O) (h : fF_balance_7 o0 o1 o2 o3 o4 o5 = some r) : phCu o2 ≤ phCu r.2.2.2.1 := by
  have hm : phCu o2 ≤ phCu o2 := Nat.le_refl _
  obtain ⟨q_1, hq_1, h⟩ := op_b h
  exact Nat.le_trans hm (nF_balance_22 _ _ _ _ _ _ _ h)
set_option maxRecDepth 100000 in
theorem nF_balance_0 (o0 : cf_O) (o1 : cf_O) (o2 : cf_O) (o3 : cf_O) (o4 : cf_O) (o5 : cf_O) (r : Int32 × cf_O × cf_O × cf_O × cf_O × cf_O × cf_O) (h : fF_balance_0 o0 o1 o2 o3 o4 o5 = some r) : phCu o2 ≤ phCu r.2.2.2.1 := by
  have hm : phCu o2 ≤ phCu o2 := Nat.le_refl _
  rcases Classical.em ((o0.1 16) = 0) with c_1 | c_1
  · have h := op_t c_1 h
    obtain rfl := Option.some.inj h
    exact hm
  · have h := op_f c_1 h
    exact Nat.le_trans hm (nF_balance_7 _ _ _ _ _ _ _ h)
theorem nF_balance (o0 : cf_O) (o1 : cf_O) (o2 : cf_O) (o3 : cf_O) (o4 : cf_O) (o5 : cf_O) (r : Int32 × cf_O × cf_O × cf_O × cf_O × cf_O × cf_O) (h : fF_balance o0 o1 o2 o3 o4 o5 = some r) : phCu o2 ≤ phCu r.2.2.2.1 := nF_balance_0  o0 o1 o2 o3 o4 o5 r h
set_option maxHeartbeats 4000000 in
set_option maxRecDepth 100000 in
theorem bF_balance_44 {p : Program} {l : Launch} {e : Env} {s : State} {m : MethodId} {below : List Frame} {meth : Method} {c : Code} {A : Nat → Prop} {D : va_G} {K : Nat → ClassId} {h0 : Nat} {AR : Array Value} (C : ((dc_C p s m AR meth c cF_balance 1 (Option.some Jvm.ClassFile.FieldType.int) yF_balance ∧ cf_E D K A s s.heap ∧ ∀ q, s.heap.size ≤ q → A q) ∧ (∀ x ∈ c.exceptionTable.toList, False) ∧ l.stackTraces = false)) (o0 : cf_O) (o1 : cf_O) (o2 : cf_O) (o3 : cf_O) (o4 : cf_O) (o5 : cf_O) (r : Int32 × cf_O × cf_O × cf_O × cf_O × cf_O × cf_O) (h : fF_balance_44 o0 o1 o2 o3 o4 o5 = some r) {h1 h2 h3 h4 h5 z0 z3 z5 z6 z7 z8 z9 z10 z13 z14 : Nat} {a1 a2 a3 a4 a5 : Nat → Nat} {H : Heap} {locs : List Loc} {ls : Array Slot} (hP : va_P D vwCl (wF K h0 (fF [z0, h1, h2, z3, h3, z5, z6, z7, z8, z9, z10, h4, h5, z13, z14]) o0 ++ wFu K h1 a1 o1 ++ wCu K h2 a2 o2 ++ wRe K h3 a3 o3 ++ wGr K h4 a4 o4 ++ wGr K h5 a5 o5) H) (hD : va_D A (wF K h0 (fF [z0, h1, h2, z3, h3, z5, z6, z7, z8, z9, z10, h4, h5, z13, z14]) o0 ++ wFu K h1 a1 o1 ++ wCu K h2 a2 o2 ++ wRe K h3 a3 o3 ++ wGr K h4 a4 o4 ++ wGr K h5 a5 o5)) (hS : va_S A s.heap H locs) (hl : lv_has ls 1 [(0, .ref h0)]) : W p l e ({ frames := 7, cells := (0 + xc (r.2.1.1 30)), slots := (0 + 6 * xc (r.2.1.1 30)), locals := 129 }) s m AR below meth c H locs 0 0 (xq below (r.2.1.1 30) (va_Qi (fun (x : Int32) (_ : uF) => x = r.1) (fun (u : uF) t => cf_At D A (wF K h0 (fF [z0, h1, h2, z3, h3, z5, z6, z7, z8, z9, z10, (u.1 11), (u.1 12), z13, z14]) r.2.1 ++ wFu K h1 a1 r.2.2.1 ++ wCu K h2 a2 r.2.2.2.1 ++ wRe K h3 a3 r.2.2.2.2.1 ++ wGr K (u.1 11) (u.2 4) r.2.2.2.2.2.1 ++ wGr K (u.1 12) (u.2 5) r.2.2.2.2.2.2) t) A) D (fun (u : uF) => wF K h0 (fF [z0, h1, h2, z3, h3, z5, z6, z7, z8, z9, z10, (u.1 11), (u.1 12), z13, z14]) r.2.1 ++ wFu K h1 a1 r.2.2.1 ++ wCu K h2 a2 r.2.2.2.1 ++ wRe K h3 a3 r.2.2.2.2.1 ++ wGr K (u.1 11) (u.2 4) r.2.2.2.2.2.1 ++ wGr K (u.1 12) (u.2 5) r.2.2.2.2.2.2) A AR s (0 + xc (r.2.1.1 30)) (0 + 6 * xc (r.2.1.1 30))) (F0 m 44 ls []) := by
  have hEx := C.2.1
  have hl9 := C.2.2
  obtain ⟨⟨hx, hb, hr, hts, hown, hlocks, hin, hml⟩, hE, hA⟩ := id C.1
  have hK := hE.k
  refine lv_aload_n hx hb dF_balance_44 rfl (lv_at hl 0 rfl) ?_
  refine va_get (D := D) (ci := 0) (v := .ref h4) (C := RF) (T := TF) (N := 19) hx hb hts inF hown hK hP 0 rfl rfl 11 (by decide) (hts _ wv_672) (fun _ h9 => h9) rfl dF_balance_45 ?_
  refine va_get (D := D) (ci := 3) (v := .int (o4.1 2)) (C := RGr) (T := TGr) (N := 10) hx hb hts inGr hown hK hP 22 rfl rfl 2 (by decide) (hts _ wv_557) (fun _ h9 => h9) rfl dF_balance_48 ?_
  obtain rfl := Option.some.inj h
  exact dc_iretF ((fF [z0, h1, h2, z3, h3, z5, z6, z7, z8, z9, z10, h4, h5, z13, z14]), (vF [(fun _ => 0), a1, a2, a3, a4, a5])) rfl hx hb hr hlocks rfl (hP.sub [0, 1, 2, 3, 4, 5, 6, 7, 8, 9, 10, 11, 12, 13, 14, 15, 16, 17, 18, 19, 20, 21, 22, 23, 24, 25, 26, 27, 28, 29, 30, 31, 32, 33, 34, 35] rfl) (hD.sub [0, 1, 2, 3, 4, 5, 6, 7, 8, 9, 10, 11, 12, 13, 14, 15, 16, 17, 18, 19, 20, 21, 22, 23, 24, 25, 26, 27, 28, 29, 30, 31, 32, 33, 34, 35] (by decide +kernel) rfl) hS (Nat.zero_le _) (Nat.zero_le _) dF_balance_51
set_option maxHeartbeats 4000000 in
set_option maxRecDepth 100000 in
theorem bF_balance_40 {p : Program} {l : Launch} {e : Env} {s : State} {m : MethodId} {below : List Frame} {meth : Method} {c : Code} {A : Nat → Prop} {D : va_G} {K : Nat → ClassId} {h0 : Nat} {AR : Array Value} (C : ((dc_C p s m AR meth c cF_balance 1 (Option.some Jvm.ClassFile.FieldType.int) yF_balance ∧ cf_E D K A s s.heap ∧ ∀ q, s.heap.size ≤ q → A q) ∧ (∀ x ∈ c.exceptionTable.toList, False) ∧ l.stackTraces = false)) (o0 : cf_O) (o1 : cf_O) (o2 : cf_O) (o3 : cf_O) (o4 : cf_O) (o5 : cf_O) (r : Int32 × cf_O × cf_O × cf_O × cf_O × cf_O × cf_O) (h : fF_balance_40 o0 o1 o2 o3 o4 o5 = some r) {h1 h2 h3 h4 h5 z0 z3 z5 z6 z7 z8 z9 z10 z13 z14 : Nat} {a1 a2 a3 a4 a5 : Nat → Nat} {H : Heap} {locs : List Loc} {ls : Array Slot} (hP : va_P D vwCl (wF K h0 (fF [z0, h1, h2, z3, h3, z5, z6, z7, z8, z9, z10, h4, h5, z13, z14]) o0 ++ wFu K h1 a1 o1 ++ wCu K h2 a2 o2 ++ wRe K h3 a3 o3 ++ wGr K h4 a4 o4 ++ wGr K h5 a5 o5) H) (hD : va_D A (wF K h0 (fF [z0, h1, h2, z3, h3, z5, z6, z7, z8, z9, z10, h4, h5, z13, z14]) o0 ++ wFu K h1 a1 o1 ++ wCu K h2 a2 o2 ++ wRe K h3 a3 o3 ++ wGr K h4 a4 o4 ++ wGr K h5 a5 o5)) (hS : va_S A s.heap H locs) (hl : lv_has ls 1 [(0, .ref h0)]) : W p l e ({ frames := 7, cells := (0 + xc (r.2.1.1 30)), slots := (0 + 6 * xc (r.2.1.1 30)), locals := 129 }) s m AR below meth c H locs 0 0 (xq below (r.2.1.1 30) (va_Qi (fun (x : Int32) (_ : uF) => x = r.1) (fun (u : uF) t => cf_At D A (wF K h0 (fF [z0, h1, h2, z3, h3, z5, z6, z7, z8, z9, z10, (u.1 11), (u.1 12), z13, z14]) r.2.1 ++ wFu K h1 a1 r.2.2.1 ++ wCu K h2 a2 r.2.2.2.1 ++ wRe K h3 a3 r.2.2.2.2.1 ++ wGr K (u.1 11) (u.2 4) r.2.2.2.2.2.1 ++ wGr K (u.1 12) (u.2 5) r.2.2.2.2.2.2) t) A) D (fun (u : uF) => wF K h0 (fF [z0, h1, h2, z3, h3, z5, z6, z7, z8, z9, z10, (u.1 11), (u.1 12), z13, z14]) r.2.1 ++ wFu K h1 a1 r.2.2.1 ++ wCu K h2 a2 r.2.2.2.1 ++ wRe K h3 a3 r.2.2.2.2.1 ++ wGr K (u.1 11) (u.2 4) r.2.2.2.2.2.1 ++ wGr K (u.1 12) (u.2 5) r.2.2.2.2.2.2) A AR s (0 + xc (r.2.1.1 30)) (0 + 6 * xc (r.2.1.1 30))) (F0 m 40 ls []) := by
  have hEx := C.2.1
  have hl9 := C.2.2
  obtain ⟨⟨hx, hb, hr, hts, hown, hlocks, hin, hml⟩, hE, hA⟩ := id C.1
  have hK := hE.k
  refine lv_aload_n hx hb dF_balance_40 rfl (lv_at hl 0 rfl) ?_
  obtain ⟨q_1, hq_1, h⟩ := op_b h
  rcases Classical.em ((q_1.1.1 30) = 0) with c_2 | c_2
  · have h := op_t c_2 h
    refine cf_callv (wc := wF K h0 (fF [z0, h1, h2, z3, h3, z5, z6, z7, z8, z9, z10, h4, h5, z13, z14]) o0 ++ wFu K h1 a1 o1 ++ wCu K h2 a2 o2) (wr := wRe K h3 a3 o3 ++ wGr K h4 a4 o4 ++ wGr K h5 a5 o5) (va_runV (As := []) (rest := []) ⟨hx, hb, hml, hown, hts⟩ (mF_takeSpareNodes l hl9 D K _ h0 h1 a1 h2 a2 z0 z3 h3 z5 z6 z7 z8 z9 z10 h4 h5 z13 z14 o0 o1 o2 _ hq_1 c_2) (cwV 0 hts (cf_GV wv_1085 wv_1087 wv_24 wv_157 wv_1088) rfl rfl rfl (by decide +kernel) ⟨Nat.le_of_ble_eq_true rfl, Nat.le_of_ble_eq_true rfl⟩) (cf_preV (wc := wF K h0 (fF [z0, h1, h2, z3, h3, z5, z6, z7, z8, z9, z10, h4, h5, z13, z14]) o0 ++ wFu K h1 a1 o1 ++ wCu K h2 a2 o2) hE hP hD hS hA rfl 0 rfl [0, 1, 2, 3, 4, 5, 6, 7, 8, 9, 10] rfl (by decide +kernel)) rfl rfl hl.1 rfl (lv_room (Nat.le_of_ble_eq_true rfl)) dF_balance_41 ⟨(by have hz := xc_z c_2; show 0 + (0 + xc (q_1.1.1 30)) ≤ 0 + xc (r.2.1.1 30); omega), (by have hz := xc_z c_2; show 0 + (0 + 6 * xc (q_1.1.1 30)) ≤ 0 + 6 * xc (r.2.1.1 30); omega)⟩) hP hD hS hA [0, 1, 2, 3, 4, 5, 6, 7, 8, 9, 10] [11, 12, 13, 14, 15, 16, 17, 18, 19, 20, 21, 22, 23, 24, 25, 26, 27, 28, 29, 30, 31, 32, 33, 34, 35] rfl rfl (by decide +kernel) (by decide +kernel) (fun u_3 H locs hw hP hD hS => ?_)
    refine W.widen (k := 0) (n := 0) (by have hz := xc_z c_2; show 0 + (0 + xc (q_1.1.1 30)) ≤ 0; omega) (by have hz := xc_z c_2; show 0 + (0 + 6 * xc (q_1.1.1 30)) ≤ 0; omega) ?_
    have hP : va_P D vwCl (wF K h0 (fF [z0, h1, h2, z3, h3, z5, z6, z7, z8, z9, z10, h5, h4, z13, z14]) q_1.1 ++ wFu K h1 a1 q_1.2.1 ++ wCu K h2 a2 q_1.2.2 ++ wRe K h3 a3 o3 ++ wGr K h4 a4 o4 ++ wGr K h5 a5 o5) H := hP.sub [25, 26, 27, 28, 29, 30, 31, 32, 33, 34, 35, 0, 1, 2, 3, 4, 5, 6, 7, 8, 9, 10, 11, 12, 13, 14, 15, 16, 17, 18, 19, 20, 21, 22, 23, 24] rfl
    have hD : va_D A (wF K h0 (fF [z0, h1, h2, z3, h3, z5, z6, z7, z8, z9, z10, h5, h4, z13, z14]) q_1.1 ++ wFu K h1 a1 q_1.2.1 ++ wCu K h2 a2 q_1.2.2 ++ wRe K h3 a3 o3 ++ wGr K h4 a4 o4 ++ wGr K h5 a5 o5) := hD.sub [25, 26, 27, 28, 29, 30, 31, 32, 33, 34, 35, 0, 1, 2, 3, 4, 5, 6, 7, 8, 9, 10, 11, 12, 13, 14, 15, 16, 17, 18, 19, 20, 21, 22, 23, 24] (by decide +kernel) rfl
    have hP : va_P D vwCl (wF K h0 (fF [z0, h1, h2, z3, h3, z5, z6, z7, z8, z9, z10, h5, h4, z13, z14]) q_1.1 ++ wFu K h1 a1 q_1.2.1 ++ wCu K h2 a2 q_1.2.2 ++ wRe K h3 a3 o3 ++ wGr K h5 a5 o5 ++ wGr K h4 a4 o4) H := hP.sub [0, 1, 2, 3, 4, 5, 6, 7, 8, 9, 10, 11, 12, 13, 14, 15, 16, 17, 18, 19, 20, 21, 29, 30, 31, 32, 33, 34, 35, 22, 23, 24, 25, 26, 27, 28] rfl
    have hD : va_D A (wF K h0 (fF [z0, h1, h2, z3, h3, z5, z6, z7, z8, z9, z10, h5, h4, z13, z14]) q_1.1 ++ wFu K h1 a1 q_1.2.1 ++ wCu K h2 a2 q_1.2.2 ++ wRe K h3 a3 o3 ++ wGr K h5 a5 o5 ++ wGr K h4 a4 o4) := hD.sub [0, 1, 2, 3, 4, 5, 6, 7, 8, 9, 10, 11, 12, 13, 14, 15, 16, 17, 18, 19, 20, 21, 29, 30, 31, 32, 33, 34, 35, 22, 23, 24, 25, 26, 27, 28] (by decide +kernel) rfl
    exact bF_balance_44 C _ _ _ _ _ _ _ h hP hD hS (lv_sub hl [0] rfl)
  · have h := op_f c_2 h
    obtain rfl := Option.some.inj h
    refine xt_callVG (wc := wF K h0 (fF [z0, h1, h2, z3, h3, z5, z6, z7, z8, z9, z10, h4, h5, z13, z14]) o0 ++ wFu K h1 a1 o1 ++ wCu K h2 a2 o2) (wr := wRe K h3 a3 o3 ++ wGr K h4 a4 o4 ++ wGr K h5 a5 o5) (As := []) (rest := []) ⟨hx, hb, hml, hown, hts⟩ (zxF_takeSpareNodes l hl9 D K _ h0 h1 a1 h2 a2 z0 z3 h3 z5 z6 z7 z8 z9 z10 h4 h5 z13 z14 o0 o1 o2 _ hq_1 c_2) (cwV 0 hts (cf_GV wv_1085 wv_1087 wv_24 wv_157 wv_1088) rfl rfl rfl (by decide +kernel) ⟨Nat.le_of_ble_eq_true rfl, Nat.le_of_ble_eq_true rfl⟩) (cf_preV (wc := wF K h0 (fF [z0, h1, h2, z3, h3, z5, z6, z7, z8, z9, z10, h4, h5, z13, z14]) o0 ++ wFu K h1 a1 o1 ++ wCu K h2 a2 o2) hE hP hD hS hA rfl 0 rfl [0, 1, 2, 3, 4, 5, 6, 7, 8, 9, 10] rfl (by decide +kernel)) rfl hl.1 (lv_room (Nat.le_of_ble_eq_true rfl)) dF_balance_41 ⟨(by show 0 + (0 + xc (q_1.1.1 30)) ≤ 0 + xc (q_1.1.1 30); omega), (by show 0 + (0 + 6 * xc (q_1.1.1 30)) ≤ 0 + 6 * xc (q_1.1.1 30); omega)⟩ hP hD hS hA [0, 1, 2, 3, 4, 5, 6, 7, 8, 9, 10] [11, 12, 13, 14, 15, 16, 17, 18, 19, 20, 21, 22, 23, 24, 25, 26, 27, 28, 29, 30, 31, 32, 33, 34, 35] rfl rfl (by decide +kernel) (by decide +kernel) (fun u q9 ce H locs hP hD hS hce hcv hcl => ?_)
    exact xt_outF ((fF [z0, h1, h2, z3, h3, z5, z6, z7, z8, z9, z10, h5, h4, z13, z14]), (vF [(fun _ => 0), a1, a2, a3, a5, a4])) c_2 rfl hEx hlocks hce hcv hcl (hP.sub [25, 26, 27, 28, 29, 30, 31, 32, 33, 34, 35, 0, 1, 2, 3, 4, 5, 6, 7, 8, 9, 10, 18, 19, 20, 21, 22, 23, 24, 11, 12, 13, 14, 15, 16, 17] rfl) (hD.sub [25, 26, 27, 28, 29, 30, 31, 32, 33, 34, 35, 0, 1, 2, 3, 4, 5, 6, 7, 8, 9, 10, 18, 19, 20, 21, 22, 23, 24, 11, 12, 13, 14, 15, 16, 17] (by decide +kernel) rfl) hS (by show 0 + (0 + xc (q_1.1.1 30)) ≤ 0 + xc (q_1.1.1 30); omega) (by show 0 + (0 + 6 * xc (q_1.1.1 30)) ≤ 0 + 6 * xc (q_1.1.1 30); omega)
set_option maxHeartbeats 4000000 in
set_option maxRecDepth 100000 in
theorem bF_balance_37 {p : Program} {l : Launch} {e : Env} {s : State} {m : MethodId} {below : List Frame} {meth : Method} {c : Code} {A : Nat → Prop} {D : va_G} {K : Nat → ClassId} {h0 : Nat} {AR : Array Value} (C : ((dc_C p s m AR meth c cF_balance 1 (Option.some Jvm.ClassFile.FieldType.int) yF_balance ∧ cf_E D K A s s.heap ∧ ∀ q, s.heap.size ≤ q → A q) ∧ (∀ x ∈ c.exceptionTable.toList, False) ∧ l.stackTraces = false)) (s0 : Int32) (o0 : cf_O) (o1 : cf_O) (o2 : cf_O) (o3 : cf_O) (o4 : cf_O) (o5 : cf_O) (r : Int32 × cf_O × cf_O × cf_O × cf_O × cf_O × cf_O) (h : fF_balance_37 s0 o0 o1 o2 o3 o4 o5 = some r) {h1 h2 h3 h4 h5 z0 z3 z5 z6 z7 z8 z9 z10 z13 z14 : Nat} {a1 a2 a3 a4 a5 : Nat → Nat} {H : Heap} {locs : List Loc} {ls : Array Slot} (hP : va_P D vwCl (wF K h0 (fF [z0, h1, h2, z3, h3, z5, z6, z7, z8, z9, z10, h4, h5, z13, z14]) o0 ++ wFu K h1 a1 o1 ++ wCu K h2 a2 o2 ++ wRe K h3 a3 o3 ++ wGr K h4 a4 o4 ++ wGr K h5 a5 o5) H) (hD : va_D A (wF K h0 (fF [z0, h1, h2, z3, h3, z5, z6, z7, z8, z9, z10, h4, h5, z13, z14]) o0 ++ wFu K h1 a1 o1 ++ wCu K h2 a2 o2 ++ wRe K h3 a3 o3 ++ wGr K h4 a4 o4 ++ wGr K h5 a5 o5)) (hS : va_S A s.heap H locs) (hl : lv_has ls 1 [(0, .ref h0)]) : W p l e ({ frames := 7, cells := (0 + xc (r.2.1.1 30)), slots := (0 + 6 * xc (r.2.1.1 30)), locals := 129 }) s m AR below meth c H locs 0 0 (xq below (r.2.1.1 30) (va_Qi (fun (x : Int32) (_ : uF) => x = r.1) (fun (u : uF) t => cf_At D A (wF K h0 (fF [z0, h1, h2, z3, h3, z5, z6, z7, z8, z9, z10, (u.1 11), (u.1 12), z13, z14]) r.2.1 ++ wFu K h1 a1 r.2.2.1 ++ wCu K h2 a2 r.2.2.2.1 ++ wRe K h3 a3 r.2.2.2.2.1 ++ wGr K (u.1 11) (u.2 4) r.2.2.2.2.2.1 ++ wGr K (u.1 12) (u.2 5) r.2.2.2.2.2.2) t) A) D (fun (u : uF) => wF K h0 (fF [z0, h1, h2, z3, h3, z5, z6, z7, z8, z9, z10, (u.1 11), (u.1 12), z13, z14]) r.2.1 ++ wFu K h1 a1 r.2.2.1 ++ wCu K h2 a2 r.2.2.2.1 ++ wRe K h3 a3 r.2.2.2.2.1 ++ wGr K (u.1 11) (u.2 4) r.2.2.2.2.2.1 ++ wGr K (u.1 12) (u.2 5) r.2.2.2.2.2.2) A AR s (0 + xc (r.2.1.1 30)) (0 + 6 * xc (r.2.1.1 30))) (F0 m 37 ls [.int s0]) := by
  have hEx := C.2.1
  have hl9 := C.2.2
  obtain ⟨⟨hx, hb, hr, hts, hown, hlocks, hin, hml⟩, hE, hA⟩ := id C.1
  have hK := hE.k
  rcases Classical.em (s0 = 0) with c_1 | c_1
  · have h := op_t c_1 h
    obtain rfl := Option.some.inj h
    rw [c_1]
    refine xt_callS (wc := []) (wr := wF K h0 (fF [z0, h1, h2, z3, h3, z5, z6, z7, z8, z9, z10, h4, h5, z13, z14]) o0 ++ wFu K h1 a1 o1 ++ wCu K h2 a2 o2 ++ wRe K h3 a3 o3 ++ wGr K h4 a4 o4 ++ wGr K h5 a5 o5) (As := [.int 0]) (rest := []) ⟨hx, hb, hml, hown, hts⟩ (xF_needRoom l hl9 D K _) (va_cwS 1 hts (cf_GS wv_1082 wv_1083 wv_157 wv_1084) rfl rfl rfl (by decide +kernel) ⟨Nat.le_of_ble_eq_true rfl, Nat.le_of_ble_eq_true rfl⟩) (cf_preS (wc := []) hE hP hD hS hA [] rfl (by decide +kernel)) rfl hl.1 (lv_room (Nat.le_of_ble_eq_true rfl)) dF_balance_37 ⟨(xc_c (show (4 : Int32) ≠ 0 by decide)), (xc_s (show (4 : Int32) ≠ 0 by decide))⟩ hP hD hS hA [] [0, 1, 2, 3, 4, 5, 6, 7, 8, 9, 10, 11, 12, 13, 14, 15, 16, 17, 18, 19, 20, 21, 22, 23, 24, 25, 26, 27, 28, 29, 30, 31, 32, 33, 34, 35] rfl rfl (by decide +kernel) (by decide +kernel) (fun q9 ce H locs hP hD hS hce hcv hcl => ?_)
    exact xt_outF ((fF [z0, h1, h2, z3, h3, z5, z6, z7, z8, z9, z10, h4, h5, z13, z14]), (vF [(fun _ => 0), a1, a2, a3, a4, a5])) (show (4 : Int32) ≠ 0 by decide) (show xE 4 = "java/lang/UnsupportedOperationException" from rfl) hEx hlocks hce hcv hcl (hP.sub [0, 1, 2, 3, 4, 5, 6, 7, 8, 9, 10, 11, 12, 13, 14, 15, 16, 17, 18, 19, 20, 21, 22, 23, 24, 25, 26, 27, 28, 29, 30, 31, 32, 33, 34, 35] rfl) (hD.sub [0, 1, 2, 3, 4, 5, 6, 7, 8, 9, 10, 11, 12, 13, 14, 15, 16, 17, 18, 19, 20, 21, 22, 23, 24, 25, 26, 27, 28, 29, 30, 31, 32, 33, 34, 35] (by decide +kernel) rfl) hS (xc_c (show (4 : Int32) ≠ 0 by decide)) (xc_s (show (4 : Int32) ≠ 0 by decide))
  · have h := op_f c_1 h
    refine cf_pcallv (va_runS (As := [.int s0]) (rest := []) ⟨hx, hb, hml, hown, hts⟩ (kn_needRoom l s0 c_1) (va_cwS 1 hts (cf_GS wv_1082 wv_1083 wv_157 wv_1084) rfl rfl rfl (by decide +kernel) ⟨Nat.le_of_ble_eq_true rfl, Nat.le_of_ble_eq_true rfl⟩) preEq rfl rfl hl.1 rfl (lv_room (Nat.le_of_ble_eq_true rfl)) dF_balance_37 ⟨Nat.zero_le _, Nat.zero_le _⟩) ?_
    exact bF_balance_40 C _ _ _ _ _ _ _ h hP hD hS (lv_sub hl [0] rfl)
set_option maxHeartbeats 4000000 in
set_option maxRecDepth 100000 in
theorem bF_balance_22 {p : Program} {l : Launch} {e : Env} {s : State} {m : MethodId} {below : List Frame} {meth : Method} {c : Code} {A : Nat → Prop} {D : va_G} {K : Nat → ClassId} {h0 : Nat} {AR : Array Value} (C : ((dc_C p s m AR meth c cF_balance 1 (Option.some Jvm.ClassFile.FieldType.int) yF_balance ∧ cf_E D K A s s.heap ∧ ∀ q, s.heap.size ≤ q → A q) ∧ (∀ x ∈ c.exceptionTable.toList, False) ∧ l.stackTraces = false)) (o0 : cf_O) (o1 : cf_O) (o2 : cf_O) (o3 : cf_O) (o4 : cf_O) (o5 : cf_O) (r : Int32 × cf_O × cf_O × cf_O × cf_O × cf_O × cf_O) (h : fF_balance_22 o0 o1 o2 o3 o4 o5 = some r) {h1 h2 h3 h4 h5 z0 z3 z5 z6 z7 z8 z9 z10 z13 z14 : Nat} {a1 a2 a3 a4 a5 : Nat → Nat} {H : Heap} {locs : List Loc} {ls : Array Slot} (hP : va_P D vwCl (wF K h0 (fF [z0, h1, h2, z3, h3, z5, z6, z7, z8, z9, z10, h4, h5, z13, z14]) o0 ++ wFu K h1 a1 o1 ++ wCu K h2 a2 o2 ++ wRe K h3 a3 o3 ++ wGr K h4 a4 o4 ++ wGr K h5 a5 o5) H) (hD : va_D A (wF K h0 (fF [z0, h1, h2, z3, h3, z5, z6, z7, z8, z9, z10, h4, h5, z13, z14]) o0 ++ wFu K h1 a1 o1 ++ wCu K h2 a2 o2 ++ wRe K h3 a3 o3 ++ wGr K h4 a4 o4 ++ wGr K h5 a5 o5)) (hS : va_S A s.heap H locs) (hl : lv_has ls 1 [(0, .ref h0)]) : W p l e ({ frames := 7, cells := (0 + xc (r.2.1.1 30)), slots := (0 + 6 * xc (r.2.1.1 30)), locals := 129 }) s m AR below meth c H locs 0 0 (xq below (r.2.1.1 30) (va_Qi (fun (x : Int32) (_ : uF) => x = r.1) (fun (u : uF) t => cf_At D A (wF K h0 (fF [z0, h1, h2, z3, h3, z5, z6, z7, z8, z9, z10, (u.1 11), (u.1 12), z13, z14]) r.2.1 ++ wFu K h1 a1 r.2.2.1 ++ wCu K h2 a2 r.2.2.2.1 ++ wRe K h3 a3 r.2.2.2.2.1 ++ wGr K (u.1 11) (u.2 4) r.2.2.2.2.2.1 ++ wGr K (u.1 12) (u.2 5) r.2.2.2.2.2.2) t) A) D (fun (u : uF) => wF K h0 (fF [z0, h1, h2, z3, h3, z5, z6, z7, z8, z9, z10, (u.1 11), (u.1 12), z13, z14]) r.2.1 ++ wFu K h1 a1 r.2.2.1 ++ wCu K h2 a2 r.2.2.2.1 ++ wRe K h3 a3 r.2.2.2.2.1 ++ wGr K (u.1 11) (u.2 4) r.2.2.2.2.2.1 ++ wGr K (u.1 12) (u.2 5) r.2.2.2.2.2.2) A AR s (0 + xc (r.2.1.1 30)) (0 + 6 * xc (r.2.1.1 30))) (F0 m 22 ls []) := by
  have hEx := C.2.1
  have hl9 := C.2.2
  obtain ⟨⟨hx, hb, hr, hts, hown, hlocks, hin, hml⟩, hE, hA⟩ := id C.1
  have hK := hE.k
  refine lv_aload_n hx hb dF_balance_22 rfl (lv_at hl 0 rfl) ?_
  refine va_get (D := D) (ci := 0) (v := .ref h5) (C := RF) (T := TF) (N := 19) hx hb hts inF hown hK hP 0 rfl rfl 12 (by decide) (hts _ wv_673) (fun _ h9 => h9) rfl dF_balance_23 ?_
  refine va_get (D := D) (ci := 3) (v := .int (o5.1 3)) (C := RGr) (T := TGr) (N := 10) hx hb hts inGr hown hK hP 29 rfl rfl 3 (by decide) (hts _ wv_559) (fun _ h9 => h9) rfl dF_balance_26 ?_
  refine lv_if_ne (tgt := 36) hx hb dF_balance_29 (by decide) (fun c_1 => ?_) (fun c_1 => ?_)
  · have h := op_f c_1 h
    refine lv_iconst (v := 0) hx hb dF_balance_36 (by decide) ?_
    exact bF_balance_37 C _ _ _ _ _ _ _ _ h hP hD hS (lv_sub hl [0] rfl)
  · have h := op_t c_1 h
    refine lv_iconst (v := 1) hx hb dF_balance_32 (by decide) ?_
    refine lv_goto (tgt := 37) hx hb dF_balance_33 (by decide) ?_
    exact bF_balance_37 C _ _ _ _ _ _ _ _ h hP hD hS (lv_sub hl [0] rfl)
set_option maxHeartbeats 4000000 in
set_option maxRecDepth 100000 in
theorem bF_balance_7 {p : Program} {l : Launch} {e : Env} {s : State} {m : MethodId} {below : List Frame} {meth : Method} {c : Code} {A : Nat → Prop} {D : va_G} {K : Nat → ClassId} {h0 : Nat} {AR : Array Value} (C : ((dc_C p s m AR meth c cF_balance 1 (Option.some Jvm.ClassFile.FieldType.int) yF_balance ∧ cf_E D K A s s.heap ∧ ∀ q, s.heap.size ≤ q → A q) ∧ (∀ x ∈ c.exceptionTable.toList, False) ∧ l.stackTraces = false)) (o0 : cf_O) (o1 : cf_O) (o2 : cf_O) (o3 : cf_O) (o4 : cf_O) (o5 : cf_O) (r : Int32 × cf_O × cf_O × cf_O × cf_O × cf_O × cf_O) (h : fF_balance_7 o0 o1 o2 o3 o4 o5 = some r) {h1 h2 h3 h4 h5 z0 z3 z5 z6 z7 z8 z9 z10 z13 z14 : Nat} {a1 a2 a3 a4 a5 : Nat → Nat} {H : Heap} {locs : List Loc} {ls : Array Slot} (hP : va_P D vwCl (wF K h0 (fF [z0, h1, h2, z3, h3, z5, z6, z7, z8, z9, z10, h4, h5, z13, z14]) o0 ++ wFu K h1 a1 o1 ++ wCu K h2 a2 o2 ++ wRe K h3 a3 o3 ++ wGr K h4 a4 o4 ++ wGr K h5 a5 o5) H) (hD : va_D A (wF K h0 (fF [z0, h1, h2, z3, h3, z5, z6, z7, z8, z9, z10, h4, h5, z13, z14]) o0 ++ wFu K h1 a1 o1 ++ wCu K h2 a2 o2 ++ wRe K h3 a3 o3 ++ wGr K h4 a4 o4 ++ wGr K h5 a5 o5)) (hS : va_S A s.heap H locs) (hl : lv_has ls 1 [(0, .ref h0)]) : W p l e ({ frames := 7, cells := (0 + xc (r.2.1.1 30)), slots := (0 + 6 * xc (r.2.1.1 30)), locals := 129 }) s m AR below meth c H locs 0 0 (xq below (r.2.1.1 30) (va_Qi (fun (x : Int32) (_ : uF) => x = r.1) (fun (u : uF) t => cf_At D A (wF K h0 (fF [z0, h1, h2, z3, h3, z5, z6, z7, z8, z9, z10, (u.1 11), (u.1 12), z13, z14]) r.2.1 ++ wFu K h1 a1 r.2.2.1 ++ wCu K h2 a2 r.2.2.2.1 ++ wRe K h3 a3 r.2.2.2.2.1 ++ wGr K (u.1 11) (u.2 4) r.2.2.2.2.2.1 ++ wGr K (u.1 12) (u.2 5) r.2.2.2.2.2.2) t) A) D (fun (u : uF) => wF K h0 (fF [z0, h1, h2, z3, h3, z5, z6, z7, z8, z9, z10, (u.1 11), (u.1 12), z13, z14]) r.2.1 ++ wFu K h1 a1 r.2.2.1 ++ wCu K h2 a2 r.2.2.2.1 ++ wRe K h3 a3 r.2.2.2.2.1 ++ wGr K (u.1 11) (u.2 4) r.2.2.2.2.2.1 ++ wGr K (u.1 12) (u.2 5) r.2.2.2.2.2.2) A AR s (0 + xc (r.2.1.1 30)) (0 + 6 * xc (r.2.1.1 30))) (F0 m 7 ls []) := by
  have hEx := C.2.1
  have hl9 := C.2.2
  obtain ⟨⟨hx, hb, hr, hts, hown, hlocks, hin, hml⟩, hE, hA⟩ := id C.1
  have hK := hE.k
  refine lv_aload_n hx hb dF_balance_7 rfl (lv_at hl 0 rfl) ?_
  refine va_get (D := D) (ci := 0) (v := .ref h3) (C := RF) (T := TF) (N := 19) hx hb hts inF hown hK hP 0 rfl rfl 4 (by decide) (hts _ wv_665) (fun _ h9 => h9) rfl dF_balance_8 ?_
  refine lv_aload_n hx hb dF_balance_11 rfl (lv_at hl 0 rfl) ?_
  refine va_get (D := D) (ci := 0) (v := .ref h4) (C := RF) (T := TF) (N := 19) hx hb hts inF hown hK hP 0 rfl rfl 11 (by decide) (hts _ wv_672) (fun _ h9 => h9) rfl dF_balance_12 ?_
  refine lv_aload_n hx hb dF_balance_15 rfl (lv_at hl 0 rfl) ?_
  refine va_get (D := D) (ci := 0) (v := .ref h5) (C := RF) (T := TF) (N := 19) hx hb hts inF hown hK hP 0 rfl rfl 12 (by decide) (hts _ wv_673) (fun _ h9 => h9) rfl dF_balance_16 ?_
  obtain ⟨q_1, hq_1, h⟩ := op_b h
  refine cf_callv (wc := wRe K h3 a3 o3 ++ wGr K h4 a4 o4 ++ wGr K h5 a5 o5) (wr := wF K h0 (fF [z0, h1, h2, z3, h3, z5, z6, z7, z8, z9, z10, h4, h5, z13, z14]) o0 ++ wFu K h1 a1 o1 ++ wCu K h2 a2 o2) (va_runV (As := [.ref h4, .ref h5]) (rest := []) ⟨hx, hb, hml, hown, hts⟩ (mRe_makeBalanced l D K _ h3 a3 h4 a4 h5 a5 o3 o4 o5 _ hq_1) (cwV 2 hts (cf_GV wv_1188 wv_1189 wv_1190 wv_162 wv_1191) rfl rfl rfl (by decide +kernel) ⟨Nat.le_of_ble_eq_true rfl, Nat.le_of_ble_eq_true rfl⟩) (cf_preV (wc := wRe K h3 a3 o3 ++ wGr K h4 a4 o4 ++ wGr K h5 a5 o5) hE hP hD hS hA rfl 11 rfl [11, 12, 13, 14, 15, 16, 17, 18, 19, 20, 21, 22, 23, 24, 25, 26, 27, 28, 29, 30, 31, 32, 33, 34, 35] rfl (by decide +kernel)) rfl rfl hl.1 rfl (lv_room (Nat.le_of_ble_eq_true rfl)) dF_balance_19 ⟨Nat.zero_le _, Nat.zero_le _⟩) hP hD hS hA [11, 12, 13, 14, 15, 16, 17, 18, 19, 20, 21, 22, 23, 24, 25, 26, 27, 28, 29, 30, 31, 32, 33, 34, 35] [0, 1, 2, 3, 4, 5, 6, 7, 8, 9, 10] rfl rfl (by decide +kernel) (by decide +kernel) (fun _ H locs hw_2 hP hD hS => ?_)
  have hP : va_P D vwCl (wF K h0 (fF [z0, h1, h2, z3, h3, z5, z6, z7, z8, z9, z10, h4, h5, z13, z14]) o0 ++ wFu K h1 a1 o1 ++ wCu K h2 a2 o2 ++ wRe K h3 a3 q_1.1 ++ wGr K h4 a4 o4 ++ wGr K h5 a5 q_1.2) H := hP.sub [0, 1, 2, 3, 4, 5, 6, 7, 8, 9, 10, 11, 12, 13, 14, 15, 16, 17, 18, 19, 20, 21, 22, 23, 24, 25, 26, 27, 28, 29, 30, 31, 32, 33, 34, 35] rfl
  have hD : va_D A (wF K h0 (fF [z0, h1, h2, z3, h3, z5, z6, z7, z8, z9, z10, h4, h5, z13, z14]) o0 ++ wFu K h1 a1 o1 ++ wCu K h2 a2 o2 ++ wRe K h3 a3 q_1.1 ++ wGr K h4 a4 o4 ++ wGr K h5 a5 q_1.2) := hD.sub [0, 1, 2, 3, 4, 5, 6, 7, 8, 9, 10, 11, 12, 13, 14, 15, 16, 17, 18, 19, 20, 21, 22, 23, 24, 25, 26, 27, 28, 29, 30, 31, 32, 33, 34, 35] (by decide +kernel) rfl
  exact bF_balance_22 C _ _ _ _ _ _ _ h hP hD hS (lv_sub hl [0] rfl)
set_option maxHeartbeats 4000000 in
set_option maxRecDepth 100000 in
theorem bF_balance_0 {p : Program} {l : Launch} {e : Env} {s : State} {m : MethodId} {below : List Frame} {meth : Method} {c : Code} {A : Nat → Prop} {D : va_G} {K : Nat → ClassId} {h0 : Nat} {AR : Array Value} (C : ((dc_C p s m AR meth c cF_balance 1 (Option.some Jvm.ClassFile.FieldType.int) yF_balance ∧ cf_E D K A s s.heap ∧ ∀ q, s.heap.size ≤ q → A q) ∧ (∀ x ∈ c.exceptionTable.toList, False) ∧ l.stackTraces = false)) (o0 : cf_O) (o1 : cf_O) (o2 : cf_O) (o3 : cf_O) (o4 : cf_O) (o5 : cf_O) (r : Int32 × cf_O × cf_O × cf_O × cf_O × cf_O × cf_O) (h : fF_balance_0 o0 o1 o2 o3 o4 o5 = some r) {h1 h2 h3 h4 h5 z0 z3 z5 z6 z7 z8 z9 z10 z13 z14 : Nat} {a1 a2 a3 a4 a5 : Nat → Nat} {H : Heap} {locs : List Loc} {ls : Array Slot} (hP : va_P D vwCl (wF K h0 (fF [z0, h1, h2, z3, h3, z5, z6, z7, z8, z9, z10, h4, h5, z13, z14]) o0 ++ wFu K h1 a1 o1 ++ wCu K h2 a2 o2 ++ wRe K h3 a3 o3 ++ wGr K h4 a4 o4 ++ wGr K h5 a5 o5) H) (hD : va_D A (wF K h0 (fF [z0, h1, h2, z3, h3, z5, z6, z7, z8, z9, z10, h4, h5, z13, z14]) o0 ++ wFu K h1 a1 o1 ++ wCu K h2 a2 o2 ++ wRe K h3 a3 o3 ++ wGr K h4 a4 o4 ++ wGr K h5 a5 o5)) (hS : va_S A s.heap H locs) (hl : lv_has ls 1 [(0, .ref h0)]) : W p l e ({ frames := 7, cells := (0 + xc (r.2.1.1 30)), slots := (0 + 6 * xc (r.2.1.1 30)), locals := 129 }) s m AR below meth c H locs 0 0 (xq below (r.2.1.1 30) (va_Qi (fun (x : Int32) (_ : uF) => x = r.1) (fun (u : uF) t => cf_At D A (wF K h0 (fF [z0, h1, h2, z3, h3, z5, z6, z7, z8, z9, z10, (u.1 11), (u.1 12), z13, z14]) r.2.1 ++ wFu K h1 a1 r.2.2.1 ++ wCu K h2 a2 r.2.2.2.1 ++ wRe K h3 a3 r.2.2.2.2.1 ++ wGr K (u.1 11) (u.2 4) r.2.2.2.2.2.1 ++ wGr K (u.1 12) (u.2 5) r.2.2.2.2.2.2) t) A) D (fun (u : uF) => wF K h0 (fF [z0, h1, h2, z3, h3, z5, z6, z7, z8, z9, z10, (u.1 11), (u.1 12), z13, z14]) r.2.1 ++ wFu K h1 a1 r.2.2.1 ++ wCu K h2 a2 r.2.2.2.1 ++ wRe K h3 a3 r.2.2.2.2.1 ++ wGr K (u.1 11) (u.2 4) r.2.2.2.2.2.1 ++ wGr K (u.1 12) (u.2 5) r.2.2.2.2.2.2) A AR s (0 + xc (r.2.1.1 30)) (0 + 6 * xc (r.2.1.1 30))) (F0 m 0 ls []) := by
  have hEx := C.2.1
  have hl9 := C.2.2
  obtain ⟨⟨hx, hb, hr, hts, hown, hlocks, hin, hml⟩, hE, hA⟩ := id C.1
  have hK := hE.k
  refine lv_aload_n hx hb dF_balance_0 rfl (lv_at hl 0 rfl) ?_
  refine va_get (D := D) (ci := 0) (v := .int (o0.1 16)) (C := RF) (T := TF) (N := 19) hx hb hts inF hown hK hP 0 rfl rfl 16 (by decide) (hts _ wv_677) (fun _ h9 => h9) rfl dF_balance_1 ?_
  rcases Classical.em ((o0.1 16) = 0) with c_1 | c_1
  · have h := op_t c_1 h
    obtain rfl := Option.some.inj h
    rw [c_1]
    refine xt_callS (wc := []) (wr := wF K h0 (fF [z0, h1, h2, z3, h3, z5, z6, z7, z8, z9, z10, h4, h5, z13, z14]) o0 ++ wFu K h1 a1 o1 ++ wCu K h2 a2 o2 ++ wRe K h3 a3 o3 ++ wGr K h4 a4 o4 ++ wGr K h5 a5 o5) (As := [.int 0]) (rest := []) ⟨hx, hb, hml, hown, hts⟩ (xF_needState l hl9 D K _) (va_cwS 1 hts (cf_GS wv_1097 wv_1098 wv_157 wv_1099) rfl rfl rfl (by decide +kernel) ⟨Nat.le_of_ble_eq_true rfl, Nat.le_of_ble_eq_true rfl⟩) (cf_preS (wc := []) hE hP hD hS hA [] rfl (by decide +kernel)) rfl hl.1 (lv_room (Nat.le_of_ble_eq_true rfl)) dF_balance_4 ⟨(xc_c (show (2 : Int32) ≠ 0 by decide)), (xc_s (show (2 : Int32) ≠ 0 by decide))⟩ hP hD hS hA [] [0, 1, 2, 3, 4, 5, 6, 7, 8, 9, 10, 11, 12, 13, 14, 15, 16, 17, 18, 19, 20, 21, 22, 23, 24, 25, 26, 27, 28, 29, 30, 31, 32, 33, 34, 35] rfl rfl (by decide +kernel) (by decide +kernel) (fun q9 ce H locs hP hD hS hce hcv hcl => ?_)
    exact xt_outF ((fF [z0, h1, h2, z3, h3, z5, z6, z7, z8, z9, z10, h4, h5, z13, z14]), (vF [(fun _ => 0), a1, a2, a3, a4, a5])) (show (2 : Int32) ≠ 0 by decide) (show xE 2 = "java/lang/IllegalStateException" from rfl) hEx hlocks hce hcv hcl (hP.sub [0, 1, 2, 3, 4, 5, 6, 7, 8, 9, 10, 11, 12, 13, 14, 15, 16, 17, 18, 19, 20, 21, 22, 23, 24, 25, 26, 27, 28, 29, 30, 31, 32, 33, 34, 35] rfl) (hD.sub [0, 1, 2, 3, 4, 5, 6, 7, 8, 9, 10, 11, 12, 13, 14, 15, 16, 17, 18, 19, 20, 21, 22, 23, 24, 25, 26, 27, 28, 29, 30, 31, 32, 33, 34, 35] (by decide +kernel) rfl) hS (xc_c (show (2 : Int32) ≠ 0 by decide)) (xc_s (show (2 : Int32) ≠ 0 by decide))
  · have h := op_f c_1 h
    refine cf_pcallv (va_runS (As := [.int (o0.1 16)]) (rest := []) ⟨hx, hb, hml, hown, hts⟩ (kn_needState l (o0.1 16) c_1) (va_cwS 1 hts (cf_GS wv_1097 wv_1098 wv_157 wv_1099) rfl rfl rfl (by decide +kernel) ⟨Nat.le_of_ble_eq_true rfl, Nat.le_of_ble_eq_true rfl⟩) preEq rfl rfl hl.1 rfl (lv_room (Nat.le_of_ble_eq_true rfl)) dF_balance_4 ⟨Nat.zero_le _, Nat.zero_le _⟩) ?_
    exact bF_balance_7 C _ _ _ _ _ _ _ h hP hD hS (lv_sub hl [0] rfl)
set_option maxRecDepth 100000 in
theorem mF_balance (l : Launch) (hl9 : l.stackTraces = false) (D : va_G) (K : Nat → ClassId) (sz : Nat) (h0 : Nat) (h1 : Nat) (a1 : Nat → Nat) (h2 : Nat) (a2 : Nat → Nat) (h3 : Nat) (a3 : Nat → Nat) (h4 : Nat) (a4 : Nat → Nat) (h5 : Nat) (a5 : Nat → Nat) (z0 : Nat) (z3 : Nat) (z5 : Nat) (z6 : Nat) (z7 : Nat) (z8 : Nat) (z9 : Nat) (z10 : Nat) (z13 : Nat) (z14 : Nat) (o0 : cf_O) (o1 : cf_O) (o2 : cf_O) (o3 : cf_O) (o4 : cf_O) (o5 : cf_O) (r : Int32 × cf_O × cf_O × cf_O × cf_O × cf_O × cf_O) (h : fF_balance o0 o1 o2 o3 o4 o5 = some r) (h0c : (r.2.1.1 30) = 0) : Met l yF_balance (Cond.code yF_balance cF_balance 1 (Option.some Jvm.ClassFile.FieldType.int) :: cfB) ({ frames := 7, cells := (0 + xc (r.2.1.1 30)), slots := (0 + 6 * xc (r.2.1.1 30)), locals := 129 }) (va_Pc [.ref h0] (cf_Pre D K sz (wF K h0 (fF [z0, h1, h2, z3, h3, z5, z6, z7, z8, z9, z10, h4, h5, z13, z14]) o0 ++ wFu K h1 a1 o1 ++ wCu K h2 a2 o2 ++ wRe K h3 a3 o3 ++ wGr K h4 a4 o4 ++ wGr K h5 a5 o5))) (va_Qi (fun (x : Int32) (_ : uF) => x = r.1) (fun (u : uF) t => cf_At D (va_A (wF K h0 (fF [z0, h1, h2, z3, h3, z5, z6, z7, z8, z9, z10, h4, h5, z13, z14]) o0 ++ wFu K h1 a1 o1 ++ wCu K h2 a2 o2 ++ wRe K h3 a3 o3 ++ wGr K h4 a4 o4 ++ wGr K h5 a5 o5) sz) (wF K h0 (fF [z0, h1, h2, z3, h3, z5, z6, z7, z8, z9, z10, (u.1 11), (u.1 12), z13, z14]) r.2.1 ++ wFu K h1 a1 r.2.2.1 ++ wCu K h2 a2 r.2.2.2.1 ++ wRe K h3 a3 r.2.2.2.2.1 ++ wGr K (u.1 11) (u.2 4) r.2.2.2.2.2.1 ++ wGr K (u.1 12) (u.2 5) r.2.2.2.2.2.2) t) (va_A (wF K h0 (fF [z0, h1, h2, z3, h3, z5, z6, z7, z8, z9, z10, h4, h5, z13, z14]) o0 ++ wFu K h1 a1 o1 ++ wCu K h2 a2 o2 ++ wRe K h3 a3 o3 ++ wGr K h4 a4 o4 ++ wGr K h5 a5 o5) sz)) (0 + xc (r.2.1.1 30)) (0 + 6 * xc (r.2.1.1 30)) (va_A (wF K h0 (fF [z0, h1, h2, z3, h3, z5, z6, z7, z8, z9, z10, h4, h5, z13, z14]) o0 ++ wFu K h1 a1 o1 ++ wCu K h2 a2 o2 ++ wRe K h3 a3 o3 ++ wGr K h4 a4 o4 ++ wGr K h5 a5 o5) sz) := by
  refine cf_ofWF (y := yF_balance) (As := [.ref h0]) (WS := wF K h0 (fF [z0, h1, h2, z3, h3, z5, z6, z7, z8, z9, z10, h4, h5, z13, z14]) o0 ++ wFu K h1 a1 o1 ++ wCu K h2 a2 o2 ++ wRe K h3 a3 o3 ++ wGr K h4 a4 o4 ++ wGr K h5 a5 o5) (maxL := 1) (fun A => (va_Qi (fun (x : Int32) (_ : uF) => x = r.1) (fun (u : uF) t => cf_At D A (wF K h0 (fF [z0, h1, h2, z3, h3, z5, z6, z7, z8, z9, z10, (u.1 11), (u.1 12), z13, z14]) r.2.1 ++ wFu K h1 a1 r.2.2.1 ++ wCu K h2 a2 r.2.2.2.1 ++ wRe K h3 a3 r.2.2.2.2.1 ++ wGr K (u.1 11) (u.2 4) r.2.2.2.2.2.1 ++ wGr K (u.1 12) (u.2 5) r.2.2.2.2.2.2) t) A)) (by decide) (Nat.le_of_ble_eq_true rfl) ?_
  intro p e s m below meth c A ls En hEx hNS hsz hA hP hD hE hS hl
  have C : ((dc_C p s m (([.ref h0] : List Value).toArray) meth c cF_balance 1 (Option.some Jvm.ClassFile.FieldType.int) yF_balance ∧ cf_E D K A s s.heap ∧ ∀ q, s.heap.size ≤ q → A q) ∧ (∀ x ∈ c.exceptionTable.toList, False) ∧ l.stackTraces = false) := ⟨⟨En, hE, hA⟩, hEx, hl9⟩
  refine W_to (fun t9 h9 => ?_) (bF_balance_0 C o0 o1 o2 o3 o4 o5 r h hP hD hS hl)
  rcases h9 with h9 | h9
  · exact h9.2
  · exact absurd h0c h9.1
set_option maxRecDepth 100000 in
theorem zxF_balance (l : Launch) (hl9 : l.stackTraces = false) (D : va_G) (K : Nat → ClassId) (sz : Nat) (h0 : Nat) (h1 : Nat) (a1 : Nat → Nat) (h2 : Nat) (a2 : Nat → Nat) (h3 : Nat) (a3 : Nat → Nat) (h4 : Nat) (a4 : Nat → Nat) (h5 : Nat) (a5 : Nat → Nat) (z0 : Nat) (z3 : Nat) (z5 : Nat) (z6 : Nat) (z7 : Nat) (z8 : Nat) (z9 : Nat) (z10 : Nat) (z13 : Nat) (z14 : Nat) (o0 : cf_O) (o1 : cf_O) (o2 : cf_O) (o3 : cf_O) (o4 : cf_O) (o5 : cf_O) (r : Int32 × cf_O × cf_O × cf_O × cf_O × cf_O × cf_O) (h : fF_balance o0 o1 o2 o3 o4 o5 = some r) (h0c : ¬ (r.2.1.1 30) = 0) : xt_MetG l yF_balance (Cond.code yF_balance cF_balance 1 (Option.some Jvm.ClassFile.FieldType.int) :: cfB) ({ frames := 7, cells := (0 + xc (r.2.1.1 30)), slots := (0 + 6 * xc (r.2.1.1 30)), locals := 129 }) (va_Pc [.ref h0] (cf_Pre D K sz (wF K h0 (fF [z0, h1, h2, z3, h3, z5, z6, z7, z8, z9, z10, h4, h5, z13, z14]) o0 ++ wFu K h1 a1 o1 ++ wCu K h2 a2 o2 ++ wRe K h3 a3 o3 ++ wGr K h4 a4 o4 ++ wGr K h5 a5 o5))) (xE (r.2.1.1 30)) D (fun (u : uF) => wF K h0 (fF [z0, h1, h2, z3, h3, z5, z6, z7, z8, z9, z10, (u.1 11), (u.1 12), z13, z14]) r.2.1 ++ wFu K h1 a1 r.2.2.1 ++ wCu K h2 a2 r.2.2.2.1 ++ wRe K h3 a3 r.2.2.2.2.1 ++ wGr K (u.1 11) (u.2 4) r.2.2.2.2.2.1 ++ wGr K (u.1 12) (u.2 5) r.2.2.2.2.2.2) (va_A (wF K h0 (fF [z0, h1, h2, z3, h3, z5, z6, z7, z8, z9, z10, h4, h5, z13, z14]) o0 ++ wFu K h1 a1 o1 ++ wCu K h2 a2 o2 ++ wRe K h3 a3 o3 ++ wGr K h4 a4 o4 ++ wGr K h5 a5 o5) sz) (0 + xc (r.2.1.1 30)) (0 + 6 * xc (r.2.1.1 30)) := by
  refine xt_ofWG (y := yF_balance) (As := [.ref h0]) (WS := wF K h0 (fF [z0, h1, h2, z3, h3, z5, z6, z7, z8, z9, z10, h4, h5, z13, z14]) o0 ++ wFu K h1 a1 o1 ++ wCu K h2 a2 o2 ++ wRe K h3 a3 o3 ++ wGr K h4 a4 o4 ++ wGr K h5 a5 o5) (maxL := 1) (by decide) (Nat.le_of_ble_eq_true rfl) ?_
  intro p e s m below meth c A ls En hEx hNS hsz hA hP hD hE hS hl
  have C : ((dc_C p s m (([.ref h0] : List Value).toArray) meth c cF_balance 1 (Option.some Jvm.ClassFile.FieldType.int) yF_balance ∧ cf_E D K A s s.heap ∧ ∀ q, s.heap.size ≤ q → A q) ∧ (∀ x ∈ c.exceptionTable.toList, False) ∧ l.stackTraces = false) := ⟨⟨En, hE, hA⟩, hEx, hl9⟩
  refine W_to (fun t9 h9 => ?_) (bF_balance_0 C o0 o1 o2 o3 o4 o5 r h hP hD hS hl)
  rcases h9 with h9 | h9
  · exact absurd h9.1 h0c
  · exact h9.2
set_option maxRecDepth 100000 in
theorem nF_reduce_59 (o0 : cf_O) (o1 : cf_O) (o2 : cf_O) (o3 : cf_O) (o4 : cf_O) (o5 : cf_O) (r : Int32 × cf_O × cf_O × cf_O × cf_O × cf_O × cf_O) (h : fF_reduce_59 o0 o1 o2 o3 o4 o5 = some r) : phCu o2 ≤ phCu r.2.2.2.1 := by
  have hm : phCu o2 ≤ phCu o2 := Nat.le_refl _
  obtain rfl := Option.some.inj h
  exact hm
set_option maxRecDepth 100000 in
theorem nF_reduce_55 (o0 : cf_O) (o1 : cf_O) (o2 : cf_O) (o3 : cf_O) (o4 : cf_O) (o5 : cf_O) (r : Int32 × cf_O × cf_O × cf_O × cf_O × cf_O × cf_O) (h : fF_reduce_55 o0 o1 o2 o3 o4 o5 = some r) : phCu o2 ≤ phCu r.2.2.2.1 := by
  have hm : phCu o2 ≤ phCu o2 := Nat.le_refl _
  obtain ⟨q_1, hq_1, h⟩ := op_b h
  have hm : phCu o2 ≤ phCu q_1.2.2 := Nat.le_trans hm (nF_takeSpareNodes _ _ _ _ hq_1)
  rcases Classical.em ((q_1.1.1 30) = 0) with c_2 | c_2
  · have h := op_t c_2 h
    exact Nat.le_trans hm (nF_reduce_59 _ _ _ _ _ _ _ h)
  · have h := op_f c_2 h
    obtain rfl := Option.some.inj h
    exact hm
set_option maxRecDepth 100000 in
theorem nF_reduce_52 (s0 : Int32) (o0 : cf_O) (o1 : cf_O) (o2 : cf_O) (o3 : cf_O) (o4 : cf_O) (o5 : cf_O) (r : Int32 × cf_O × cf_O × cf_O × cf_O × cf_O × cf_O) (h : fF_reduce_52 s0 o0 o1 o2 o3 o4 o5 = some r) : phCu o2 ≤ phCu r.2.2.2.1 := by
  have hm : phCu o2 ≤ phCu o2 := Nat.le_refl _
  rcases Classical.em (s0 = 0) with c_1 | c_1
  · have h := op_t c_1 h
    obtain rfl := Option.some.inj h
    exact hm
  · have h := op_f c_1 h
    exact Nat.le_trans hm (nF_reduce_55 _ _ _ _ _ _ _ h)
set_option maxRecDepth 100000 in
theorem nF_reduce_37 (o0 : cf_O) (o1 : cf_O) (o2 : cf_O) (o3 : cf_O) (o4 : cf_O) (o5 : cf_O) (r : Int32 × cf_O × cf_O × cf_O × cf_O × cf_O × cf_O) (h : fF_reduce_37 o0 o1 o2 o3 o4 o5 = some r) : phCu o2 ≤ phCu r.2.2.2.1 := by
  have hm : phCu o2 ≤ phCu o2 := Nat.le_refl _
  rcases (Classical.em ((o5.1 3) = (0 : Int32))).symm with c_1 | c_1
  · have h := op_f c_1 h
    exact Nat.le_trans hm (nF_reduce_52 _ _ _ _ _ _ _ _ h)
  · have h := op_t c_1 h
    exact Nat.le_trans hm (nF_reduce_52 _ _ _ _ _ _ _ _ h)
set_option maxRecDepth 100000 in
theorem nF_reduce_18 (o0 : cf_O) (o1 : cf_O) (o2 : cf_O) (o3 : cf_O) (o4 : cf_O) (o5 : cf_O) (r : Int32 × cf_O × cf_O × cf_O × cf_O × cf_O × cf_O) (h : fF_reduce_18 o0 o1 o2 o3 o4 o5 = some r) : phCu o2 ≤ phCu r.2.2.2.1 := by
  have hm : phCu o2 ≤ phCu o2 := Nat.le_refl _
  obtain ⟨q_1, hq_1, h⟩ := op_b h
  exact Nat.le_trans hm (nF_reduce_37 _ _ _ _ _ _ _ h)
set_option maxRecDepth 100000 in
theorem nF_reduce_7 (o0 : cf_O) (o1 : cf_O) (o2 : cf_O) (o3 : cf_O) (o4 : cf_O) (o5 : cf_O) (r : Int32 × cf_O × cf_O × cf_O × cf_O × cf_O × cf_O) (h : fF_reduce_7 o0 o1 o2 o3 o4 o5 = some r) : phCu o2 ≤ phCu r.2.2.2.1 := by
  have hm : phCu o2 ≤ phCu o2 := Nat.le_refl _
  obtain ⟨q_1, hq_1, h⟩ := op_b h
  exact Nat.le_trans hm (nF_reduce_18 _ _ _ _ _ _ _ h)
set_option maxRecDepth 100000 in
theorem nF_reduce_0 (o0 : cf_O) (o1 : cf_O) (o2 : cf_O) (o3 : cf_O) (o4 : cf_O) (o5 : cf_O) (r : Int32 × cf_O × cf_O × cf_O × cf_O × cf_O × cf_O) (h : fF_reduce_0 o0 o1 o2 o3 o4 o5 = some r) : phCu o2 ≤ phCu r.2.2.2.1 := by
  have hm : phCu o2 ≤ phCu o2 := Nat.le_refl _
  rcases Classical.em ((o0.1 16) = 0) with c_1 | c_1
  · have h := op_t c_1 h
    obtain rfl := Option.some.inj h
    exact hm
  · have h := op_f c_1 h
    exact Nat.le_trans hm (nF_reduce_7 _ _ _ _ _ _ _ h)
theorem nF_reduce (o0 : cf_O) (o1 : cf_O) (o2 : cf_O) (o3 : cf_O) (o4 : cf_O) (o5 : cf_O) (r : Int32 × cf_O × cf_O × cf_O × cf_O × cf_O × cf_O) (h : fF_reduce o0 o1 o2 o3 o4 o5 = some r) : phCu o2 ≤ phCu r.2.2.2.1 := nF_reduce_0  o0 o1 o2 o3 o4 o5 r h
set_option maxHeartbeats 4000000 in
set_option maxRecDepth 100000 in
theorem bF_reduce_59 {p : Program} {l : Launch} {e : Env} {s : State} {m : MethodId} {below : List Frame} {meth : Method} {c : Code} {A : Nat → Prop} {D : va_G} {K : Nat → ClassId} {h0 : Nat} {AR : Array Value} (C : ((dc_C p s m AR meth c cF_reduce 1 (Option.some Jvm.ClassFile.FieldType.int) yF_reduce ∧ cf_E D K A s s.heap ∧ ∀ q, s.heap.size ≤ q → A q) ∧ (∀ x ∈ c.exceptionTable.toList, False) ∧ l.stackTraces = false)) (o0 : cf_O) (o1 : cf_O) (o2 : cf_O) (o3 : cf_O) (o4 : cf_O) (o5 : cf_O) (r : Int32 × cf_O × cf_O × cf_O × cf_O × cf_O × cf_O) (h : fF_reduce_59 o0 o1 o2 o3 o4 o5 = some r) {h1 h2 h3 h4 h5 z0 z3 z5 z6 z7 z8 z9 z10 z13 z14 : Nat} {a1 a2 a3 a4 a5 : Nat → Nat} {H : Heap} {locs : List Loc} {ls : Array Slot} (hP : va_P D vwCl (wF K h0 (fF [z0, h1, h2, z3, h3, z5, z6, z7, z8, z9, z10, h4, h5, z13, z14]) o0 ++ wFu K h1 a1 o1 ++ wCu K h2 a2 o2 ++ wRe K h3 a3 o3 ++ wGr K h4 a4 o4 ++ wGr K h5 a5 o5) H) (hD : va_D A (wF K h0 (fF [z0, h1, h2, z3, h3, z5, z6, z7, z8, z9, z10, h4, h5, z13, z14]) o0 ++ wFu K h1 a1 o1 ++ wCu K h2 a2 o2 ++ wRe K h3 a3 o3 ++ wGr K h4 a4 o4 ++ wGr K h5 a5 o5)) (hS : va_S A s.heap H locs) (hl : lv_has ls 1 [(0, .ref h0)]) : W p l e ({ frames := 7, cells := (0 + xc (r.2.1.1 30)), slots := (0 + 6 * xc (r.2.1.1 30)), locals := 139 }) s m AR below meth c H locs 0 0 (xq below (r.2.1.1 30) (va_Qi (fun (x : Int32) (_ : uF) => x = r.1) (fun (u : uF) t => cf_At D A (wF K h0 (fF [z0, h1, h2, z3, h3, z5, z6, z7, z8, z9, z10, (u.1 11), (u.1 12), z13, z14]) r.2.1 ++ wFu K h1 a1 r.2.2.1 ++ wCu K h2 a2 r.2.2.2.1 ++ wRe K h3 a3 r.2.2.2.2.1 ++ wGr K (u.1 11) (u.2 4) r.2.2.2.2.2.1 ++ wGr K (u.1 12) (u.2 5) r.2.2.2.2.2.2) t) A) D (fun (u : uF) => wF K h0 (fF [z0, h1, h2, z3, h3, z5, z6, z7, z8, z9, z10, (u.1 11), (u.1 12), z13, z14]) r.2.1 ++ wFu K h1 a1 r.2.2.1 ++ wCu K h2 a2 r.2.2.2.1 ++ wRe K h3 a3 r.2.2.2.2.1 ++ wGr K (u.1 11) (u.2 4) r.2.2.2.2.2.1 ++ wGr K (u.1 12) (u.2 5) r.2.2.2.2.2.2) A AR s (0 + xc (r.2.1.1 30)) (0 + 6 * xc (r.2.1.1 30))) (F0 m 59 ls []) := by
  have hEx := C.2.1
  have hl9 := C.2.2
  obtain ⟨⟨hx, hb, hr, hts, hown, hlocks, hin, hml⟩, hE, hA⟩ := id C.1
  have hK := hE.k
  refine lv_aload_n hx hb dF_reduce_59 rfl (lv_at hl 0 rfl) ?_
  refine va_get (D := D) (ci := 0) (v := .ref h4) (C := RF) (T := TF) (N := 19) hx hb hts inF hown hK hP 0 rfl rfl 11 (by decide) (hts _ wv_672) (fun _ h9 => h9) rfl dF_reduce_60 ?_
  refine va_get (D := D) (ci := 3) (v := .int (o4.1 2)) (C := RGr) (T := TGr) (N := 10) hx hb hts inGr hown hK hP 22 rfl rfl 2 (by decide) (hts _ wv_557) (fun _ h9 => h9) rfl dF_reduce_63 ?_
  obtain rfl := Option.some.inj h
  exact dc_iretF ((fF [z0, h1, h2, z3, h3, z5, z6, z7, z8, z9, z10, h4, h5, z13, z14]), (vF [(fun _ => 0), a1, a2, a3, a4, a5])) rfl hx hb hr hlocks rfl (hP.sub [0, 1, 2, 3, 4, 5, 6, 7, 8, 9, 10, 11, 12, 13, 14, 15, 16, 17, 18, 19, 20, 21, 22, 23, 24, 25, 26, 27, 28, 29, 30, 31, 32, 33, 34, 35] rfl) (hD.sub [0, 1, 2, 3, 4, 5, 6, 7, 8, 9, 10, 11, 12, 13, 14, 15, 16, 17, 18, 19, 20, 21, 22, 23, 24, 25, 26, 27, 28, 29, 30, 31, 32, 33, 34, 35] (by decide +kernel) rfl) hS (Nat.zero_le _) (Nat.zero_le _) dF_reduce_66
set_option maxHeartbeats 4000000 in
set_option maxRecDepth 100000 in
theorem bF_reduce_55 {p : Program} {l : Launch} {e : Env} {s : State} {m : MethodId} {below : List Frame} {meth : Method} {c : Code} {A : Nat → Prop} {D : va_G} {K : Nat → ClassId} {h0 : Nat} {AR : Array Value} (C : ((dc_C p s m AR meth c cF_reduce 1 (Option.some Jvm.ClassFile.FieldType.int) yF_reduce ∧ cf_E D K A s s.heap ∧ ∀ q, s.heap.size ≤ q → A q) ∧ (∀ x ∈ c.exceptionTable.toList, False) ∧ l.stackTraces = false)) (o0 : cf_O) (o1 : cf_O) (o2 : cf_O) (o3 : cf_O) (o4 : cf_O) (o5 : cf_O) (r : Int32 × cf_O × cf_O × cf_O × cf_O × cf_O × cf_O) (h : fF_reduce_55 o0 o1 o2 o3 o4 o5 = some r) {h1 h2 h3 h4 h5 z0 z3 z5 z6 z7 z8 z9 z10 z13 z14 : Nat} {a1 a2 a3 a4 a5 : Nat → Nat} {H : Heap} {locs : List Loc} {ls : Array Slot} (hP : va_P D vwCl (wF K h0 (fF [z0, h1, h2, z3, h3, z5, z6, z7, z8, z9, z10, h4, h5, z13, z14]) o0 ++ wFu K h1 a1 o1 ++ wCu K h2 a2 o2 ++ wRe K h3 a3 o3 ++ wGr K h4 a4 o4 ++ wGr K h5 a5 o5) H) (hD : va_D A (wF K h0 (fF [z0, h1, h2, z3, h3, z5, z6, z7, z8, z9, z10, h4, h5, z13, z14]) o0 ++ wFu K h1 a1 o1 ++ wCu K h2 a2 o2 ++ wRe K h3 a3 o3 ++ wGr K h4 a4 o4 ++ wGr K h5 a5 o5)) (hS : va_S A s.heap H locs) (hl : lv_has ls 1 [(0, .ref h0)]) : W p l e ({ frames := 7, cells := (0 + xc (r.2.1.1 30)), slots := (0 + 6 * xc (r.2.1.1 30)), locals := 139 }) s m AR below meth c H locs 0 0 (xq below (r.2.1.1 30) (va_Qi (fun (x : Int32) (_ : uF) => x = r.1) (fun (u : uF) t => cf_At D A (wF K h0 (fF [z0, h1, h2, z3, h3, z5, z6, z7, z8, z9, z10, (u.1 11), (u.1 12), z13, z14]) r.2.1 ++ wFu K h1 a1 r.2.2.1 ++ wCu K h2 a2 r.2.2.2.1 ++ wRe K h3 a3 r.2.2.2.2.1 ++ wGr K (u.1 11) (u.2 4) r.2.2.2.2.2.1 ++ wGr K (u.1 12) (u.2 5) r.2.2.2.2.2.2) t) A) D (fun (u : uF) => wF K h0 (fF [z0, h1, h2, z3, h3, z5, z6, z7, z8, z9, z10, (u.1 11), (u.1 12), z13, z14]) r.2.1 ++ wFu K h1 a1 r.2.2.1 ++ wCu K h2 a2 r.2.2.2.1 ++ wRe K h3 a3 r.2.2.2.2.1 ++ wGr K (u.1 11) (u.2 4) r.2.2.2.2.2.1 ++ wGr K (u.1 12) (u.2 5) r.2.2.2.2.2.2) A AR s (0 + xc (r.2.1.1 30)) (0 + 6 * xc (r.2.1.1 30))) (F0 m 55 ls []) := by
  have hEx := C.2.1
  have hl9 := C.2.2
  obtain ⟨⟨hx, hb, hr, hts, hown, hlocks, hin, hml⟩, hE, hA⟩ := id C.1
  have hK := hE.k
  refine lv_aload_n hx hb dF_reduce_55 rfl (lv_at hl 0 rfl) ?_
  obtain ⟨q_1, hq_1, h⟩ := op_b h
  rcases Classical.em ((q_1.1.1 30) = 0) with c_2 | c_2
  · have h := op_t c_2 h
    refine cf_callv (wc := wF K h0 (fF [z0, h1, h2, z3, h3, z5, z6, z7, z8, z9, z10, h4, h5, z13, z14]) o0 ++ wFu K h1 a1 o1 ++ wCu K h2 a2 o2) (wr := wRe K h3 a3 o3 ++ wGr K h4 a4 o4 ++ wGr K h5 a5 o5) (va_runV (As := []) (rest := []) ⟨hx, hb, hml, hown, hts⟩ (mF_takeSpareNodes l hl9 D K _ h0 h1 a1 h2 a2 z0 z3 h3 z5 z6 z7 z8 z9 z10 h4 h5 z13 z14 o0 o1 o2 _ hq_1 c_2) (cwV 0 hts (cf_GV wv_1085 wv_1087 wv_24 wv_157 wv_1088) rfl rfl rfl (by decide +kernel) ⟨Nat.le_of_ble_eq_true rfl, Nat.le_of_ble_eq_true rfl⟩) (cf_preV (wc := wF K h0 (fF [z0, h1, h2, z3, h3, z5, z6, z7, z8, z9, z10, h4, h5, z13, z14]) o0 ++ wFu K h1 a1 o1 ++ wCu K h2 a2 o2) hE hP hD hS hA rfl 0 rfl [0, 1, 2, 3, 4, 5, 6, 7, 8, 9, 10] rfl (by decide +kernel)) rfl rfl hl.1 rfl (lv_room (Nat.le_of_ble_eq_true rfl)) dF_reduce_56 ⟨(by have hz := xc_z c_2; show 0 + (0 + xc (q_1.1.1 30)) ≤ 0 + xc (r.2.1.1 30); omega), (by have hz := xc_z c_2; show 0 + (0 + 6 * xc (q_1.1.1 30)) ≤ 0 + 6 * xc (r.2.1.1 30); omega)⟩) hP hD hS hA [0, 1, 2, 3, 4, 5, 6, 7, 8, 9, 10] [11, 12, 13, 14, 15, 16, 17, 18, 19, 20, 21, 22, 23, 24, 25, 26, 27, 28, 29, 30, 31, 32, 33, 34, 35] rfl rfl (by decide +kernel) (by decide +kernel) (fun u_3 H locs hw hP hD hS => ?_)
    refine W.widen (k := 0) (n := 0) (by have hz := xc_z c_2; show 0 + (0 + xc (q_1.1.1 30)) ≤ 0; omega) (by have hz := xc_z c_2; show 0 + (0 + 6 * xc (q_1.1.1 30)) ≤ 0; omega) ?_
    have hP : va_P D vwCl (wF K h0 (fF [z0, h1, h2, z3, h3, z5, z6, z7, z8, z9, z10, h5, h4, z13, z14]) q_1.1 ++ wFu K h1 a1 q_1.2.1 ++ wCu K h2 a2 q_1.2.2 ++ wRe K h3 a3 o3 ++ wGr K h4 a4 o4 ++ wGr K h5 a5 o5) H := hP.sub [25, 26, 27, 28, 29, 30, 31, 32, 33, 34, 35, 0, 1, 2, 3, 4, 5, 6, 7, 8, 9, 10, 11, 12, 13, 14, 15, 16, 17, 18, 19, 20, 21, 22, 23, 24] rfl
    have hD : va_D A (wF K h0 (fF [z0, h1, h2, z3, h3, z5, z6, z7, z8, z9, z10, h5, h4, z13, z14]) q_1.1 ++ wFu K h1 a1 q_1.2.1 ++ wCu K h2 a2 q_1.2.2 ++ wRe K h3 a3 o3 ++ wGr K h4 a4 o4 ++ wGr K h5 a5 o5) := hD.sub [25, 26, 27, 28, 29, 30, 31, 32, 33, 34, 35, 0, 1, 2, 3, 4, 5, 6, 7, 8, 9, 10, 11, 12, 13, 14, 15, 16, 17, 18, 19, 20, 21, 22, 23, 24] (by decide +kernel) rfl
    have hP : va_P D vwCl (wF K h0 (fF [z0, h1, h2, z3, h3, z5, z6, z7, z8, z9, z10, h5, h4, z13, z14]) q_1.1 ++ wFu K h1 a1 q_1.2.1 ++ wCu K h2 a2 q_1.2.2 ++ wRe K h3 a3 o3 ++ wGr K h5 a5 o5 ++ wGr K h4 a4 o4) H := hP.sub [0, 1, 2, 3, 4, 5, 6, 7, 8, 9, 10, 11, 12, 13, 14, 15, 16, 17, 18, 19, 20, 21, 29, 30, 31, 32, 33, 34, 35, 22, 23, 24, 25, 26, 27, 28] rfl
    have hD : va_D A (wF K h0 (fF [z0, h1, h2, z3, h3, z5, z6, z7, z8, z9, z10, h5, h4, z13, z14]) q_1.1 ++ wFu K h1 a1 q_1.2.1 ++ wCu K h2 a2 q_1.2.2 ++ wRe K h3 a3 o3 ++ wGr K h5 a5 o5 ++ wGr K h4 a4 o4) := hD.sub [0, 1, 2, 3, 4, 5, 6, 7, 8, 9, 10, 11, 12, 13, 14, 15, 16, 17, 18, 19, 20, 21, 29, 30, 31, 32, 33, 34, 35, 22, 23, 24, 25, 26, 27, 28] (by decide +kernel) rfl
    exact bF_reduce_59 C _ _ _ _ _ _ _ h hP hD hS (lv_sub hl [0] rfl)
  · have h := op_f c_2 h
    obtain rfl := Option.some.inj h
    refine xt_callVG (wc := wF K h0 (fF [z0, h1, h2, z3, h3, z5, z6, z7, z8, z9, z10, h4, h5, z13, z14]) o0 ++ wFu K h1 a1 o1 ++ wCu K h2 a2 o2) (wr := wRe K h3 a3 o3 ++ wGr K h4 a4 o4 ++ wGr K h5 a5 o5) (As := []) (rest := []) ⟨hx, hb, hml, hown, hts⟩ (zxF_takeSpareNodes l hl9 D K _ h0 h1 a1 h2 a2 z0 z3 h3 z5 z6 z7 z8 z9 z10 h4 h5 z13 z14 o0 o1 o2 _ hq_1 c_2) (cwV 0 hts (cf_GV wv_1085 wv_1087 wv_24 wv_157 wv_1088) rfl rfl rfl (by decide +kernel) ⟨Nat.le_of_ble_eq_true rfl, Nat.le_of_ble_eq_true rfl⟩) (cf_preV (wc := wF K h0 (fF [z0, h1, h2, z3, h3, z5, z6, z7, z8, z9, z10, h4, h5, z13, z14]) o0 ++ wFu K h1 a1 o1 ++ wCu K h2 a2 o2) hE hP hD hS hA rfl 0 rfl [0, 1, 2, 3, 4, 5, 6, 7, 8, 9, 10] rfl (by decide +kernel)) rfl hl.1 (lv_room (Nat.le_of_ble_eq_true rfl)) dF_reduce_56 ⟨(by show 0 + (0 + xc (q_1.1.1 30)) ≤ 0 + xc (q_1.1.1 30); omega), (by show 0 + (0 + 6 * xc (q_1.1.1 30)) ≤ 0 + 6 * xc (q_1.1.1 30); omega)⟩ hP hD hS hA [0, 1, 2, 3, 4, 5, 6, 7, 8, 9, 10] [11, 12, 13, 14, 15, 16, 17, 18, 19, 20, 21, 22, 23, 24, 25, 26, 27, 28, 29, 30, 31, 32, 33, 34, 35] rfl rfl (by decide +kernel) (by decide +kernel) (fun u q9 ce H locs hP hD hS hce hcv hcl => ?_)
    exact xt_outF ((fF [z0, h1, h2, z3, h3, z5, z6, z7, z8, z9, z10, h5, h4, z13, z14]), (vF [(fun _ => 0), a1, a2, a3, a5, a4])) c_2 rfl hEx hlocks hce hcv hcl (hP.sub [25, 26, 27, 28, 29, 30, 31, 32, 33, 34, 35, 0, 1, 2, 3, 4, 5, 6, 7, 8, 9, 10, 18, 19, 20, 21, 22, 23, 24, 11, 12, 13, 14, 15, 16, 17] rfl) (hD.sub [25, 26, 27, 28, 29, 30, 31, 32, 33, 34, 35, 0, 1, 2, 3, 4, 5, 6, 7, 8, 9, 10, 18, 19, 20, 21, 22, 23, 24, 11, 12, 13, 14, 15, 16, 17] (by decide +kernel) rfl) hS (by show 0 + (0 + xc (q_1.1.1 30)) ≤ 0 + xc (q_1.1.1 30); omega) (by show 0 + (0 + 6 * xc (q_1.1.1 30)) ≤ 0 + 6 * xc (q_1.1.1 30); omega)
set_option maxHeartbeats 4000000 in
set_option maxRecDepth 100000 in
theorem bF_reduce_52 {p : Program} {l : Launch} {e : Env} {s : State} {m : MethodId} {below : List Frame} {meth : Method} {c : Code} {A : Nat → Prop} {D : va_G} {K : Nat → ClassId} {h0 : Nat} {AR : Array Value} (C : ((dc_C p s m AR meth c cF_reduce 1 (Option.some Jvm.ClassFile.FieldType.int) yF_reduce ∧ cf_E D K A s s.heap ∧ ∀ q, s.heap.size ≤ q → A q) ∧ (∀ x ∈ c.exceptionTable.toList, False) ∧ l.stackTraces = false)) (s0 : Int32) (o0 : cf_O) (o1 : cf_O) (o2 : cf_O) (o3 : cf_O) (o4 : cf_O) (o5 : cf_O) (r : Int32 × cf_O × cf_O × cf_O × cf_O × cf_O × cf_O) (h : fF_reduce_52 s0 o0 o1 o2 o3 o4 o5 = some r) {h1 h2 h3 h4 h5 z0 z3 z5 z6 z7 z8 z9 z10 z13 z14 : Nat} {a1 a2 a3 a4 a5 : Nat → Nat} {H : Heap} {locs : List Loc} {ls : Array Slot} (hP : va_P D vwCl (wF K h0 (fF [z0, h1, h2, z3, h3, z5, z6, z7, z8, z9, z10, h4, h5, z13, z14]) o0 ++ wFu K h1 a1 o1 ++ wCu K h2 a2 o2 ++ wRe K h3 a3 o3 ++ wGr K h4 a4 o4 ++ wGr K h5 a5 o5) H) (hD : va_D A (wF K h0 (fF [z0, h1, h2, z3, h3, z5, z6, z7, z8, z9, z10, h4, h5, z13, z14]) o0 ++ wFu K h1 a1 o1 ++ wCu K h2 a2 o2 ++ wRe K h3 a3 o3 ++ wGr K h4 a4 o4 ++ wGr K h5 a5 o5)) (hS : va_S A s.heap H locs) (hl : lv_has ls 1 [(0, .ref h0)]) : W p l e ({ frames := 7, cells := (0 + xc (r.2.1.1 30)), slots := (0 + 6 * xc (r.2.1.1 30)), locals := 139 }) s m AR below meth c H locs 0 0 (xq below (r.2.1.1 30) (va_Qi (fun (x : Int32) (_ : uF) => x = r.1) (fun (u : uF) t => cf_At D A (wF K h0 (fF [z0, h1, h2, z3, h3, z5, z6, z7, z8, z9, z10, (u.1 11), (u.1 12), z13, z14]) r.2.1 ++ wFu K h1 a1 r.2.2.1 ++ wCu K h2 a2 r.2.2.2.1 ++ wRe K h3 a3 r.2.2.2.2.1 ++ wGr K (u.1 11) (u.2 4) r.2.2.2.2.2.1 ++ wGr K (u.1 12) (u.2 5) r.2.2.2.2.2.2) t) A) D (fun (u : uF) => wF K h0 (fF [z0, h1, h2, z3, h3, z5, z6, z7, z8, z9, z10, (u.1 11), (u.1 12), z13, z14]) r.2.1 ++ wFu K h1 a1 r.2.2.1 ++ wCu K h2 a2 r.2.2.2.1 ++ wRe K h3 a3 r.2.2.2.2.1 ++ wGr K (u.1 11) (u.2 4) r.2.2.2.2.2.1 ++ wGr K (u.1 12) (u.2 5) r.2.2.2.2.2.2) A AR s (0 + xc (r.2.1.1 30)) (0 + 6 * xc (r.2.1.1 30))) (F0 m 52 ls [.int s0]) := by
  have hEx := C.2.1
  have hl9 := C.2.2
  obtain ⟨⟨hx, hb, hr, hts, hown, hlocks, hin, hml⟩, hE, hA⟩ := id C.1
  have hK := hE.k
  rcases Classical.em (s0 = 0) with c_1 | c_1
  · have h := op_t c_1 h
    obtain rfl := Option.some.inj h
    rw [c_1]
    refine xt_callS (wc := []) (wr := wF K h0 (fF [z0, h1, h2, z3, h3, z5, z6, z7, z8, z9, z10, h4, h5, z13, z14]) o0 ++ wFu K h1 a1 o1 ++ wCu K h2 a2 o2 ++ wRe K h3 a3 o3 ++ wGr K h4 a4 o4 ++ wGr K h5 a5 o5) (As := [.int 0]) (rest := []) ⟨hx, hb, hml, hown, hts⟩ (xF_needRoom l hl9 D K _) (va_cwS 1 hts (cf_GS wv_1082 wv_1083 wv_157 wv_1084) rfl rfl rfl (by decide +kernel) ⟨Nat.le_of_ble_eq_true rfl, Nat.le_of_ble_eq_true rfl⟩) (cf_preS (wc := []) hE hP hD hS hA [] rfl (by decide +kernel)) rfl hl.1 (lv_room (Nat.le_of_ble_eq_true rfl)) dF_reduce_52 ⟨(xc_c (show (4 : Int32) ≠ 0 by decide)), (xc_s (show (4 : Int32) ≠ 0 by decide))⟩ hP hD hS hA [] [0, 1, 2, 3, 4, 5, 6, 7, 8, 9, 10, 11, 12, 13, 14, 15, 16, 17, 18, 19, 20, 21, 22, 23, 24, 25, 26, 27, 28, 29, 30, 31, 32, 33, 34, 35] rfl rfl (by decide +kernel) (by decide +kernel) (fun q9 ce H locs hP hD hS hce hcv hcl => ?_)
    exact xt_outF ((fF [z0, h1, h2, z3, h3, z5, z6, z7, z8, z9, z10, h4, h5, z13, z14]), (vF [(fun _ => 0), a1, a2, a3, a4, a5])) (show (4 : Int32) ≠ 0 by decide) (show xE 4 = "java/lang/UnsupportedOperationException" from rfl) hEx hlocks hce hcv hcl (hP.sub [0, 1, 2, 3, 4, 5, 6, 7, 8, 9, 10, 11, 12, 13, 14, 15, 16, 17, 18, 19, 20, 21, 22, 23, 24, 25, 26, 27, 28, 29, 30, 31, 32, 33, 34, 35] rfl) (hD.sub [0, 1, 2, 3, 4, 5, 6, 7, 8, 9, 10, 11, 12, 13, 14, 15, 16, 17, 18, 19, 20, 21, 22, 23, 24, 25, 26, 27, 28, 29, 30, 31, 32, 33, 34, 35] (by decide +kernel) rfl) hS (xc_c (show (4 : Int32) ≠ 0 by decide)) (xc_s (show (4 : Int32) ≠ 0 by decide))
  · have h := op_f c_1 h
    refine cf_pcallv (va_runS (As := [.int s0]) (rest := []) ⟨hx, hb, hml, hown, hts⟩ (kn_needRoom l s0 c_1) (va_cwS 1 hts (cf_GS wv_1082 wv_1083 wv_157 wv_1084) rfl rfl rfl (by decide +kernel) ⟨Nat.le_of_ble_eq_true rfl, Nat.le_of_ble_eq_true rfl⟩) preEq rfl rfl hl.1 rfl (lv_room (Nat.le_of_ble_eq_true rfl)) dF_reduce_52 ⟨Nat.zero_le _, Nat.zero_le _⟩) ?_
    exact bF_reduce_55 C _ _ _ _ _ _ _ h hP hD hS (lv_sub hl [0] rfl)
set_option maxHeartbeats 4000000 in
set_option maxRecDepth 100000 in
theorem bF_reduce_37 {p : Program} {l : Launch} {e : Env} {s : State} {m : MethodId} {below : List Frame} {meth : Method} {c : Code} {A : Nat → Prop} {D : va_G} {K : Nat → ClassId} {h0 : Nat} {AR : Array Value} (C : ((dc_C p s m AR meth c cF_reduce 1 (Option.some Jvm.ClassFile.FieldType.int) yF_reduce ∧ cf_E D K A s s.heap ∧ ∀ q, s.heap.size ≤ q → A q) ∧ (∀ x ∈ c.exceptionTable.toList, False) ∧ l.stackTraces = false)) (o0 : cf_O) (o1 : cf_O) (o2 : cf_O) (o3 : cf_O) (o4 : cf_O) (o5 : cf_O) (r : Int32 × cf_O × cf_O × cf_O × cf_O × cf_O × cf_O) (h : fF_reduce_37 o0 o1 o2 o3 o4 o5 = some r) {h1 h2 h3 h4 h5 z0 z3 z5 z6 z7 z8 z9 z10 z13 z14 : Nat} {a1 a2 a3 a4 a5 : Nat → Nat} {H : Heap} {locs : List Loc} {ls : Array Slot} (hP : va_P D vwCl (wF K h0 (fF [z0, h1, h2, z3, h3, z5, z6, z7, z8, z9, z10, h4, h5, z13, z14]) o0 ++ wFu K h1 a1 o1 ++ wCu K h2 a2 o2 ++ wRe K h3 a3 o3 ++ wGr K h4 a4 o4 ++ wGr K h5 a5 o5) H) (hD : va_D A (wF K h0 (fF [z0, h1, h2, z3, h3, z5, z6, z7, z8, z9, z10, h4, h5, z13, z14]) o0 ++ wFu K h1 a1 o1 ++ wCu K h2 a2 o2 ++ wRe K h3 a3 o3 ++ wGr K h4 a4 o4 ++ wGr K h5 a5 o5)) (hS : va_S A s.heap H locs) (hl : lv_has ls 1 [(0, .ref h0)]) : W p l e ({ frames := 7, cells := (0 + xc (r.2.1.1 30)), slots := (0 + 6 * xc (r.2.1.1 30)), locals := 139 }) s m AR below meth c H locs 0 0 (xq below (r.2.1.1 30) (va_Qi (fun (x : Int32) (_ : uF) => x = r.1) (fun (u : uF) t => cf_At D A (wF K h0 (fF [z0, h1, h2, z3, h3, z5, z6, z7, z8, z9, z10, (u.1 11), (u.1 12), z13, z14]) r.2.1 ++ wFu K h1 a1 r.2.2.1 ++ wCu K h2 a2 r.2.2.2.1 ++ wRe K h3 a3 r.2.2.2.2.1 ++ wGr K (u.1 11) (u.2 4) r.2.2.2.2.2.1 ++ wGr K (u.1 12) (u.2 5) r.2.2.2.2.2.2) t) A) D (fun (u : uF) => wF K h0 (fF [z0, h1, h2, z3, h3, z5, z6, z7, z8, z9, z10, (u.1 11), (u.1 12), z13, z14]) r.2.1 ++ wFu K h1 a1 r.2.2.1 ++ wCu K h2 a2 r.2.2.2.1 ++ wRe K h3 a3 r.2.2.2.2.1 ++ wGr K (u.1 11) (u.2 4) r.2.2.2.2.2.1 ++ wGr K (u.1 12) (u.2 5) r.2.2.2.2.2.2) A AR s (0 + xc (r.2.1.1 30)) (0 + 6 * xc (r.2.1.1 30))) (F0 m 37 ls []) := by
  have hEx := C.2.1
  have hl9 := C.2.2
  obtain ⟨⟨hx, hb, hr, hts, hown, hlocks, hin, hml⟩, hE, hA⟩ := id C.1
  have hK := hE.k
  refine lv_aload_n hx hb dF_reduce_37 rfl (lv_at hl 0 rfl) ?_
  refine va_get (D := D) (ci := 0) (v := .ref h5) (C := RF) (T := TF) (N := 19) hx hb hts inF hown hK hP 0 rfl rfl 12 (by decide) (hts _ wv_673) (fun _ h9 => h9) rfl dF_reduce_38 ?_
  refine va_get (D := D) (ci := 3) (v := .int (o5.1 3)) (C := RGr) (T := TGr) (N := 10) hx hb hts inGr hown hK hP 29 rfl rfl 3 (by decide) (hts _ wv_559) (fun _ h9 => h9) rfl dF_reduce_41 ?_
  refine lv_if_ne (tgt := 51) hx hb dF_reduce_44 (by decide) (fun c_1 => ?_) (fun c_1 => ?_)
  · have h := op_f c_1 h
    refine lv_iconst (v := 0) hx hb dF_reduce_51 (by decide) ?_
    exact bF_reduce_52 C _ _ _ _ _ _ _ _ h hP hD hS (lv_sub hl [0] rfl)
  · have h := op_t c_1 h
    refine lv_iconst (v := 1) hx hb dF_reduce_47 (by decide) ?_
    refine lv_goto (tgt := 52) hx hb dF_reduce_48 (by decide) ?_
    exact bF_reduce_52 C _ _ _ _ _ _ _ _ h hP hD hS (lv_sub hl [0] rfl)
set_option maxHeartbeats 4000000 in
set_option maxRecDepth 100000 in
theorem bF_reduce_18 {p : Program} {l : Launch} {e : Env} {s : State} {m : MethodId} {below : List Frame} {meth : Method} {c : Code} {A : Nat → Prop} {D : va_G} {K : Nat → ClassId} {h0 : Nat} {AR : Array Value} (C : ((dc_C p s m AR meth c cF_reduce 1 (Option.some Jvm.ClassFile.FieldType.int) yF_reduce ∧ cf_E D K A s s.heap ∧ ∀ q, s.heap.size ≤ q → A q) ∧ (∀ x ∈ c.exceptionTable.toList, False) ∧ l.stackTraces = false)) (o0 : cf_O) (o1 : cf_O) (o2 : cf_O) (o3 : cf_O) (o4 : cf_O) (o5 : cf_O) (r : Int32 × cf_O × cf_O × cf_O × cf_O × cf_O × cf_O) (h : fF_reduce_18 o0 o1 o2 o3 o4 o5 = some r) {h1 h2 h3 h4 h5 z0 z3 z5 z6 z7 z8 z9 z10 z13 z14 : Nat} {a1 a2 a3 a4 a5 : Nat → Nat} {H : Heap} {locs : List Loc} {ls : Array Slot} (hP : va_P D vwCl (wF K h0 (fF [z0, h1, h2, z3, h3, z5, z6, z7, z8, z9, z10, h4, h5, z13, z14]) o0 ++ wFu K h1 a1 o1 ++ wCu K h2 a2 o2 ++ wRe K h3 a3 o3 ++ wGr K h4 a4 o4 ++ wGr K h5 a5 o5) H) (hD : va_D A (wF K h0 (fF [z0, h1, h2, z3, h3, z5, z6, z7, z8, z9, z10, h4, h5, z13, z14]) o0 ++ wFu K h1 a1 o1 ++ wCu K h2 a2 o2 ++ wRe K h3 a3 o3 ++ wGr K h4 a4 o4 ++ wGr K h5 a5 o5)) (hS : va_S A s.heap H locs) (hl : lv_has ls 1 [(0, .ref h0)]) : W p l e ({ frames := 7, cells := (0 + xc (r.2.1.1 30)), slots := (0 + 6 * xc (r.2.1.1 30)), locals := 139 }) s m AR below meth c H locs 0 0 (xq below (r.2.1.1 30) (va_Qi (fun (x : Int32) (_ : uF) => x = r.1) (fun (u : uF) t => cf_At D A (wF K h0 (fF [z0, h1, h2, z3, h3, z5, z6, z7, z8, z9, z10, (u.1 11), (u.1 12), z13, z14]) r.2.1 ++ wFu K h1 a1 r.2.2.1 ++ wCu K h2 a2 r.2.2.2.1 ++ wRe K h3 a3 r.2.2.2.2.1 ++ wGr K (u.1 11) (u.2 4) r.2.2.2.2.2.1 ++ wGr K (u.1 12) (u.2 5) r.2.2.2.2.2.2) t) A) D (fun (u : uF) => wF K h0 (fF [z0, h1, h2, z3, h3, z5, z6, z7, z8, z9, z10, (u.1 11), (u.1 12), z13, z14]) r.2.1 ++ wFu K h1 a1 r.2.2.1 ++ wCu K h2 a2 r.2.2.2.1 ++ wRe K h3 a3 r.2.2.2.2.1 ++ wGr K (u.1 11) (u.2 4) r.2.2.2.2.2.1 ++ wGr K (u.1 12) (u.2 5) r.2.2.2.2.2.2) A AR s (0 + xc (r.2.1.1 30)) (0 + 6 * xc (r.2.1.1 30))) (F0 m 18 ls []) := by
  have hEx := C.2.1
  have hl9 := C.2.2
  obtain ⟨⟨hx, hb, hr, hts, hown, hlocks, hin, hml⟩, hE, hA⟩ := id C.1
  have hK := hE.k
  refine lv_aload_n hx hb dF_reduce_18 rfl (lv_at hl 0 rfl) ?_
  refine va_get (D := D) (ci := 0) (v := .ref h3) (C := RF) (T := TF) (N := 19) hx hb hts inF hown hK hP 0 rfl rfl 4 (by decide) (hts _ wv_665) (fun _ h9 => h9) rfl dF_reduce_19 ?_
  refine lv_aload_n hx hb dF_reduce_22 rfl (lv_at hl 0 rfl) ?_
  refine va_get (D := D) (ci := 0) (v := .ref h4) (C := RF) (T := TF) (N := 19) hx hb hts inF hown hK hP 0 rfl rfl 11 (by decide) (hts _ wv_672) (fun _ h9 => h9) rfl dF_reduce_23 ?_
  refine lv_aload_n hx hb dF_reduce_26 rfl (lv_at hl 0 rfl) ?_
  refine va_get (D := D) (ci := 0) (v := .ref h5) (C := RF) (T := TF) (N := 19) hx hb hts inF hown hK hP 0 rfl rfl 12 (by decide) (hts _ wv_673) (fun _ h9 => h9) rfl dF_reduce_27 ?_
  refine lv_aload_n hx hb dF_reduce_30 rfl (lv_at hl 0 rfl) ?_
  refine va_get (D := D) (ci := 0) (v := .ref h1) (C := RF) (T := TF) (N := 19) hx hb hts inF hown hK hP 0 rfl rfl 1 (by decide) (hts _ wv_662) (fun _ h9 => h9) rfl dF_reduce_31 ?_
  obtain ⟨q_1, hq_1, h⟩ := op_b h
  refine cf_callv (wc := wRe K h3 a3 o3 ++ wGr K h4 a4 o4 ++ wGr K h5 a5 o5 ++ wFu K h1 a1 o1) (wr := wF K h0 (fF [z0, h1, h2, z3, h3, z5, z6, z7, z8, z9, z10, h4, h5, z13, z14]) o0 ++ wCu K h2 a2 o2) (va_runV (As := [.ref h4, .ref h5, .ref h1]) (rest := []) ⟨hx, hb, hml, hown, hts⟩ (mRe_makeReduced l D K _ h3 a3 h4 a4 h5 a5 h1 a1 o3 o4 o5 o1 _ hq_1) (cwV 3 hts (cf_GV wv_1239 wv_1240 wv_1241 wv_162 wv_1242) rfl rfl rfl (by decide +kernel) ⟨Nat.le_of_ble_eq_true rfl, Nat.le_of_ble_eq_true rfl⟩) (cf_preV (wc := wRe K h3 a3 o3 ++ wGr K h4 a4 o4 ++ wGr K h5 a5 o5 ++ wFu K h1 a1 o1) hE hP hD hS hA rfl 11 rfl [11, 12, 13, 14, 15, 16, 17, 18, 19, 20, 21, 22, 23, 24, 25, 26, 27, 28, 29, 30, 31, 32, 33, 34, 35, 1, 2, 3, 4, 5] rfl (by decide +kernel)) rfl rfl hl.1 rfl (lv_room (Nat.le_of_ble_eq_true rfl)) dF_reduce_34 ⟨Nat.zero_le _, Nat.zero_le _⟩) hP hD hS hA [11, 12, 13, 14, 15, 16, 17, 18, 19, 20, 21, 22, 23, 24, 25, 26, 27, 28, 29, 30, 31, 32, 33, 34, 35, 1, 2, 3, 4, 5] [0, 6, 7, 8, 9, 10] rfl rfl (by decide +kernel) (by decide +kernel) (fun _ H locs hw_2 hP hD hS => ?_)
  have hP : va_P D vwCl (wF K h0 (fF [z0, h1, h2, z3, h3, z5, z6, z7, z8, z9, z10, h4, h5, z13, z14]) o0 ++ wFu K h1 a1 o1 ++ wCu K h2 a2 o2 ++ wRe K h3 a3 q_1.1 ++ wGr K h4 a4 o4 ++ wGr K h5 a5 q_1.2) H := hP.sub [0, 31, 32, 33, 34, 35, 1, 2, 3, 4, 5, 6, 7, 8, 9, 10, 11, 12, 13, 14, 15, 16, 17, 18, 19, 20, 21, 22, 23, 24, 25, 26, 27, 28, 29, 30] rfl
  have hD : va_D A (wF K h0 (fF [z0, h1, h2, z3, h3, z5, z6, z7, z8, z9, z10, h4, h5, z13, z14]) o0 ++ wFu K h1 a1 o1 ++ wCu K h2 a2 o2 ++ wRe K h3 a3 q_1.1 ++ wGr K h4 a4 o4 ++ wGr K h5 a5 q_1.2) := hD.sub [0, 31, 32, 33, 34, 35, 1, 2, 3, 4, 5, 6, 7, 8, 9, 10, 11, 12, 13, 14, 15, 16, 17, 18, 19, 20, 21, 22, 23, 24, 25, 26, 27, 28, 29, 30] (by decide +kernel) rfl
  exact bF_reduce_37 C _ _ _ _ _ _ _ h hP hD hS (lv_sub hl [0] rfl)
set_option maxHeartbeats 4000000 in
set_option maxRecDepth 100000 in
theorem bF_reduce_7 {p : Program} {l : Launch} {e : Env} {s : State} {m : MethodId} {below : List Frame} {meth : Method} {c : Code} {A : Nat → Prop} {D : va_G} {K : Nat → ClassId} {h0 : Nat} {AR : Array Value} (C : ((dc_C p s m AR meth c cF_reduce 1 (Option.some Jvm.ClassFile.FieldType.int) yF_reduce ∧ cf_E D K A s s.heap ∧ ∀ q, s.heap.size ≤ q → A q) ∧ (∀ x ∈ c.exceptionTable.toList, False) ∧ l.stackTraces = false)) (o0 : cf_O) (o1 : cf_O) (o2 : cf_O) (o3 : cf_O) (o4 : cf_O) (o5 : cf_O) (r : Int32 × cf_O × cf_O × cf_O × cf_O × cf_O × cf_O) (h : fF_reduce_7 o0 o1 o2 o3 o4 o5 = some r) {h1 h2 h3 h4 h5 z0 z3 z5 z6 z7 z8 z9 z10 z13 z14 : Nat} {a1 a2 a3 a4 a5 : Nat → Nat} {H : Heap} {locs : List Loc} {ls : Array Slot} (hP : va_P D vwCl (wF K h0 (fF [z0, h1, h2, z3, h3, z5, z6, z7, z8, z9, z10, h4, h5, z13, z14]) o0 ++ wFu K h1 a1 o1 ++ wCu K h2 a2 o2 ++ wRe K h3 a3 o3 ++ wGr K h4 a4 o4 ++ wGr K h5 a5 o5) H) (hD : va_D A (wF K h0 (fF [z0, h1, h2, z3, h3, z5, z6, z7, z8, z9, z10, h4, h5, z13, z14]) o0 ++ wFu K h1 a1 o1 ++ wCu K h2 a2 o2 ++ wRe K h3 a3 o3 ++ wGr K h4 a4 o4 ++ wGr K h5 a5 o5)) (hS : va_S A s.heap H locs) (hl : lv_has ls 1 [(0, .ref h0)]) : W p l e ({ frames := 7, cells := (0 + xc (r.2.1.1 30)), slots := (0 + 6 * xc (r.2.1.1 30)), locals := 139 }) s m AR below meth c H locs 0 0 (xq below (r.2.1.1 30) (va_Qi (fun (x : Int32) (_ : uF) => x = r.1) (fun (u : uF) t => cf_At D A (wF K h0 (fF [z0, h1, h2, z3, h3, z5, z6, z7, z8, z9, z10, (u.1 11), (u.1 12), z13, z14]) r.2.1 ++ wFu K h1 a1 r.2.2.1 ++ wCu K h2 a2 r.2.2.2.1 ++ wRe K h3 a3 r.2.2.2.2.1 ++ wGr K (u.1 11) (u.2 4) r.2.2.2.2.2.1 ++ wGr K (u.1 12) (u.2 5) r.2.2.2.2.2.2) t) A) D (fun (u : uF) => wF K h0 (fF [z0, h1, h2, z3, h3, z5, z6, z7, z8, z9, z10, (u.1 11), (u.1 12), z13, z14]) r.2.1 ++ wFu K h1 a1 r.2.2.1 ++ wCu K h2 a2 r.2.2.2.1 ++ wRe K h3 a3 r.2.2.2.2.1 ++ wGr K (u.1 11) (u.2 4) r.2.2.2.2.2.1 ++ wGr K (u.1 12) (u.2 5) r.2.2.2.2.2.2) A AR s (0 + xc (r.2.1.1 30)) (0 + 6 * xc (r.2.1.1 30))) (F0 m 7 ls []) := by
  have hEx := C.2.1
  have hl9 := C.2.2
  obtain ⟨⟨hx, hb, hr, hts, hown, hlocks, hin, hml⟩, hE, hA⟩ := id C.1
  have hK := hE.k
  refine lv_aload_n hx hb dF_reduce_7 rfl (lv_at hl 0 rfl) ?_
  refine va_get (D := D) (ci := 0) (v := .ref h1) (C := RF) (T := TF) (N := 19) hx hb hts inF hown hK hP 0 rfl rfl 1 (by decide) (hts _ wv_662) (fun _ h9 => h9) rfl dF_reduce_8 ?_
  refine lv_aload_n hx hb dF_reduce_11 rfl (lv_at hl 0 rfl) ?_
  refine va_get (D := D) (ci := 0) (v := .ref h4) (C := RF) (T := TF) (N := 19) hx hb hts inF hown hK hP 0 rfl rfl 11 (by decide) (hts _ wv_672) (fun _ h9 => h9) rfl dF_reduce_12 ?_
  obtain ⟨q_1, hq_1, h⟩ := op_b h
  refine cf_callv (wc := wFu K h1 a1 o1 ++ wGr K h4 a4 o4) (wr := wF K h0 (fF [z0, h1, h2, z3, h3, z5, z6, z7, z8, z9, z10, h4, h5, z13, z14]) o0 ++ wCu K h2 a2 o2 ++ wRe K h3 a3 o3 ++ wGr K h5 a5 o5) (va_runV (As := [.ref h4]) (rest := []) ⟨hx, hb, hml, hown, hts⟩ (mFu_find l D K _ h1 a1 h4 a4 o1 o4 _ hq_1) (cwV 1 hts (cf_GV wv_1163 wv_1164 wv_1165 wv_159 wv_1166) rfl rfl rfl (by decide +kernel) ⟨Nat.le_of_ble_eq_true rfl, Nat.le_of_ble_eq_true rfl⟩) (cf_preV (wc := wFu K h1 a1 o1 ++ wGr K h4 a4 o4) hE hP hD hS hA rfl 1 rfl [1, 2, 3, 4, 5, 22, 23, 24, 25, 26, 27, 28] rfl (by decide +kernel)) rfl rfl hl.1 rfl (lv_room (Nat.le_of_ble_eq_true rfl)) dF_reduce_15 ⟨Nat.zero_le _, Nat.zero_le _⟩) hP hD hS hA [1, 2, 3, 4, 5, 22, 23, 24, 25, 26, 27, 28] [0, 6, 7, 8, 9, 10, 11, 12, 13, 14, 15, 16, 17, 18, 19, 20, 21, 29, 30, 31, 32, 33, 34, 35] rfl rfl (by decide +kernel) (by decide +kernel) (fun _ H locs hw_2 hP hD hS => ?_)
  have hP : va_P D vwCl (wF K h0 (fF [z0, h1, h2, z3, h3, z5, z6, z7, z8, z9, z10, h4, h5, z13, z14]) o0 ++ wFu K h1 a1 q_1 ++ wCu K h2 a2 o2 ++ wRe K h3 a3 o3 ++ wGr K h4 a4 o4 ++ wGr K h5 a5 o5) H := hP.sub [0, 24, 25, 26, 27, 28, 1, 2, 3, 4, 5, 6, 7, 8, 9, 10, 11, 12, 13, 14, 15, 16, 29, 30, 31, 32, 33, 34, 35, 17, 18, 19, 20, 21, 22, 23] rfl
  have hD : va_D A (wF K h0 (fF [z0, h1, h2, z3, h3, z5, z6, z7, z8, z9, z10, h4, h5, z13, z14]) o0 ++ wFu K h1 a1 q_1 ++ wCu K h2 a2 o2 ++ wRe K h3 a3 o3 ++ wGr K h4 a4 o4 ++ wGr K h5 a5 o5) := hD.sub [0, 24, 25, 26, 27, 28, 1, 2, 3, 4, 5, 6, 7, 8, 9, 10, 11, 12, 13, 14, 15, 16, 29, 30, 31, 32, 33, 34, 35, 17, 18, 19, 20, 21, 22, 23] (by decide +kernel) rfl
  exact bF_reduce_18 C _ _ _ _ _ _ _ h hP hD hS (lv_sub hl [0] rfl)
set_option maxHeartbeats 4000000 in
set_option maxRecDepth 100000 in
theorem bF_reduce_0 {p : Program} {l : Launch} {e : Env} {s : State} {m : MethodId} {below : List Frame} {meth : Method} {c : Code} {A : Nat → Prop} {D : va_G} {K : Nat → ClassId} {h0 : Nat} {AR : Array Value} (C : ((dc_C p s m AR meth c cF_reduce 1 (Option.some Jvm.ClassFile.FieldType.int) yF_reduce ∧ cf_E D K A s s.heap ∧ ∀ q, s.heap.size ≤ q → A q) ∧ (∀ x ∈ c.exceptionTable.toList, False) ∧ l.stackTraces = false)) (o0 : cf_O) (o1 : cf_O) (o2 : cf_O) (o3 : cf_O) (o4 : cf_O) (o5 : cf_O) (r : Int32 × cf_O × cf_O × cf_O × cf_O × cf_O × cf_O) (h : fF_reduce_0 o0 o1 o2 o3 o4 o5 = some r) {h1 h2 h3 h4 h5 z0 z3 z5 z6 z7 z8 z9 z10 z13 z14 : Nat} {a1 a2 a3 a4 a5 : Nat → Nat} {H : Heap} {locs : List Loc} {ls : Array Slot} (hP : va_P D vwCl (wF K h0 (fF [z0, h1, h2, z3, h3, z5, z6, z7, z8, z9, z10, h4, h5, z13, z14]) o0 ++ wFu K h1 a1 o1 ++ wCu K h2 a2 o2 ++ wRe K h3 a3 o3 ++ wGr K h4 a4 o4 ++ wGr K h5 a5 o5) H) (hD : va_D A (wF K h0 (fF [z0, h1, h2, z3, h3, z5, z6, z7, z8, z9, z10, h4, h5, z13, z14]) o0 ++ wFu K h1 a1 o1 ++ wCu K h2 a2 o2 ++ wRe K h3 a3 o3 ++ wGr K h4 a4 o4 ++ wGr K h5 a5 o5)) (hS : va_S A s.heap H locs) (hl : lv_has ls 1 [(0, .ref h0)]) : W p l e ({ frames := 7, cells := (0 + xc (r.2.1.1 30)), slots := (0 + 6 * xc (r.2.1.1 30)), locals := 139 }) s m AR below meth c H locs 0 0 (xq below (r.2.1.1 30) (va_Qi (fun (x : Int32) (_ : uF) => x = r.1) (fun (u : uF) t => cf_At D A (wF K h0 (fF [z0, h1, h2, z3, h3, z5, z6, z7, z8, z9, z10, (u.1 11), (u.1 12), z13, z14]) r.2.1 ++ wFu K h1 a1 r.2.2.1 ++ wCu K h2 a2 r.2.2.2.1 ++ wRe K h3 a3 r.2.2.2.2.1 ++ wGr K (u.1 11) (u.2 4) r.2.2.2.2.2.1 ++ wGr K (u.1 12) (u.2 5) r.2.2.2.2.2.2) t) A) D (fun (u : uF) => wF K h0 (fF [z0, h1, h2, z3, h3, z5, z6, z7, z8, z9, z10, (u.1 11), (u.1 12), z13, z14]) r.2.1 ++ wFu K h1 a1 r.2.2.1 ++ wCu K h2 a2 r.2.2.2.1 ++ wRe K h3 a3 r.2.2.2.2.1 ++ wGr K (u.1 11) (u.2 4) r.2.2.2.2.2.1 ++ wGr K (u.1 12) (u.2 5) r.2.2.2.2.2.2) A AR s (0 + xc (r.2.1.1 30)) (0 + 6 * xc (r.2.1.1 30))) (F0 m 0 ls []) := by
  have hEx := C.2.1
  have hl9 := C.2.2
  obtain ⟨⟨hx, hb, hr, hts, hown, hlocks, hin, hml⟩, hE, hA⟩ := id C.1
  have hK := hE.k
  refine lv_aload_n hx hb dF_reduce_0 rfl (lv_at hl 0 rfl) ?_
  refine va_get (D := D) (ci := 0) (v := .int (o0.1 16)) (C := RF) (T := TF) (N := 19) hx hb hts inF hown hK hP 0 rfl rfl 16 (by decide) (hts _ wv_677) (fun _ h9 => h9) rfl dF_reduce_1 ?_
  rcases Classical.em ((o0.1 16) = 0) with c_1 | c_1
  · have h := op_t c_1 h
    obtain rfl := Option.some.inj h
    rw [c_1]
    refine xt_callS (wc := []) (wr := wF K h0 (fF [z0, h1, h2, z3, h3, z5, z6, z7, z8, z9, z10, h4, h5, z13, z14]) o0 ++ wFu K h1 a1 o1 ++ wCu K h2 a2 o2 ++ wRe K h3 a3 o3 ++ wGr K h4 a4 o4 ++ wGr K h5 a5 o5) (As := [.int 0]) (rest := []) ⟨hx, hb, hml, hown, hts⟩ (xF_needState l hl9 D K _) (va_cwS 1 hts (cf_GS wv_1097 wv_1098 wv_157 wv_1099) rfl rfl rfl (by decide +kernel) ⟨Nat.le_of_ble_eq_true rfl, Nat.le_of_ble_eq_true rfl⟩) (cf_preS (wc := []) hE hP hD hS hA [] rfl (by decide +kernel)) rfl hl.1 (lv_room (Nat.le_of_ble_eq_true rfl)) dF_reduce_4 ⟨(xc_c (show (2 : Int32) ≠ 0 by decide)), (xc_s (show (2 : Int32) ≠ 0 by decide))⟩ hP hD hS hA [] [0, 1, 2, 3, 4, 5, 6, 7, 8, 9, 10, 11, 12, 13, 14, 15, 16, 17, 18, 19, 20, 21, 22, 23, 24, 25, 26, 27, 28, 29, 30, 31, 32, 33, 34, 35] rfl rfl (by decide +kernel) (by decide +kernel) (fun q9 ce H locs hP hD hS hce hcv hcl => ?_)
    exact xt_outF ((fF [z0, h1, h2, z3, h3, z5, z6, z7, z8, z9, z10, h4, h5, z13, z14]), (vF [(fun _ => 0), a1, a2, a3, a4, a5])) (show (2 : Int32) ≠ 0 by decide) (show xE 2 = "java/lang/IllegalStateException" from rfl) hEx hlocks hce hcv hcl (hP.sub [0, 1, 2, 3, 4, 5, 6, 7, 8, 9, 10, 11, 12, 13, 14, 15, 16, 17, 18, 19, 20, 21, 22, 23, 24, 25, 26, 27, 28, 29, 30, 31, 32, 33, 34, 35] rfl) (hD.sub [0, 1, 2, 3, 4, 5, 6, 7, 8, 9, 10, 11, 12, 13, 14, 15, 16, 17, 18, 19, 20, 21, 22, 23, 24, 25, 26, 27, 28, 29, 30, 31, 32, 33, 34, 35] (by decide +kernel) rfl) hS (xc_c (show (2 : Int32) ≠ 0 by decide)) (xc_s (show (2 : Int32) ≠ 0 by decide))
  · have h := op_f c_1 h
    refine cf_pcallv (va_runS (As := [.int (o0.1 16)]) (rest := []) ⟨hx, hb, hml, hown, hts⟩ (kn_needState l (o0.1 16) c_1) (va_cwS 1 hts (cf_GS wv_1097 wv_1098 wv_157 wv_1099) rfl rfl rfl (by decide +kernel) ⟨Nat.le_of_ble_eq_true rfl, Nat.le_of_ble_eq_true rfl⟩) preEq rfl rfl hl.1 rfl (lv_room (Nat.le_of_ble_eq_true rfl)) dF_reduce_4 ⟨Nat.zero_le _, Nat.zero_le _⟩) ?_
    exact bF_reduce_7 C _ _ _ _ _ _ _ h hP hD hS (lv_sub hl [0] rfl)
set_option maxRecDepth 100000 in
theorem mF_reduce (l : Launch) (hl9 : l.stackTraces = false) (D : va_G) (K : Nat → ClassId) (sz : Nat) (h0 : Nat) (h1 : Nat) (a1 : Nat → Nat) (h2 : Nat) (a2 : Nat → Nat) (h3 : Nat) (a3 : Nat → Nat) (h4 : Nat) (a4 : Nat → Nat) (h5 : Nat) (a5 : Nat → Nat) (z0 : Nat) (z3 : Nat) (z5 : Nat) (z6 : Nat) (z7 : Nat) (z8 : Nat) (z9 : Nat) (z10 : Nat) (z13 : Nat) (z14 : Nat) (o0 : cf_O) (o1 : cf_O) (o2 : cf_O) (o3 : cf_O) (o4 : cf_O) (o5 : cf_O) (r : Int32 × cf_O × cf_O × cf_O × cf_O × cf_O × cf_O) (h : fF_reduce o0 o1 o2 o3 o4 o5 = some r) (h0c : (r.2.1.1 30) = 0) : Met l yF_reduce (Cond.code yF_reduce cF_reduce 1 (Option.some Jvm.ClassFile.FieldType.int) :: cfB) ({ frames := 7, cells := (0 + xc (r.2.1.1 30)), slots := (0 + 6 * xc (r.2.1.1 30)), locals := 139 }) (va_Pc [.ref h0] (cf_Pre D K sz (wF K h0 (fF [z0, h1, h2, z3, h3, z5, z6, z7, z8, z9, z10, h4, h5, z13, z14]) o0 ++ wFu K h1 a1 o1 ++ wCu K h2 a2 o2 ++ wRe K h3 a3 o3 ++ wGr K h4 a4 o4 ++ wGr K h5 a5 o5))) (va_Qi (fun (x : Int32) (_ : uF) => x = r.1) (fun (u : uF) t => cf_At D (va_A (wF K h0 (fF [z0, h1, h2, z3, h3, z5, z6, z7, z8, z9, z10, h4, h5, z13, z14]) o0 ++ wFu K h1 a1 o1 ++ wCu K h2 a2 o2 ++ wRe K h3 a3 o3 ++ wGr K h4 a4 o4 ++ wGr K h5 a5 o5) sz) (wF K h0 (fF [z0, h1, h2, z3, h3, z5, z6, z7, z8, z9, z10, (u.1 11), (u.1 12), z13, z14]) r.2.1 ++ wFu K h1 a1 r.2.2.1 ++ wCu K h2 a2 r.2.2.2.1 ++ wRe K h3 a3 r.2.2.2.2.1 ++ wGr K (u.1 11) (u.2 4) r.2.2.2.2.2.1 ++ wGr K (u.1 12) (u.2 5) r.2.2.2.2.2.2) t) (va_A (wF K h0 (fF [z0, h1, h2, z3, h3, z5, z6, z7, z8, z9, z10, h4, h5, z13, z14]) o0 ++ wFu K h1 a1 o1 ++ wCu K h2 a2 o2 ++ wRe K h3 a3 o3 ++ wGr K h4 a4 o4 ++ wGr K h5 a5 o5) sz)) (0 + xc (r.2.1.1 30)) (0 + 6 * xc (r.2.1.1 30)) (va_A (wF K h0 (fF [z0, h1, h2, z3, h3, z5, z6, z7, z8, z9, z10, h4, h5, z13, z14]) o0 ++ wFu K h1 a1 o1 ++ wCu K h2 a2 o2 ++ wRe K h3 a3 o3 ++ wGr K h4 a4 o4 ++ wGr K h5 a5 o5) sz) := by
  refine cf_ofWF (y := yF_reduce) (As := [.ref h0]) (WS := wF K h0 (fF [z0, h1, h2, z3, h3, z5, z6, z7, z8, z9, z10, h4, h5, z13, z14]) o0 ++ wFu K h1 a1 o1 ++ wCu K h2 a2 o2 ++ wRe K h3 a3 o3 ++ wGr K h4 a4 o4 ++ wGr K h5 a5 o5) (maxL := 1) (fun A => (va_Qi (fun (x : Int32) (_ : uF) => x = r.1) (fun (u : uF) t => cf_At D A (wF K h0 (fF [z0, h1, h2, z3, h3, z5, z6, z7, z8, z9, z10, (u.1 11), (u.1 12), z13, z14]) r.2.1 ++ wFu K h1 a1 r.2.2.1 ++ wCu K h2 a2 r.2.2.2.1 ++ wRe K h3 a3 r.2.2.2.2.1 ++ wGr K (u.1 11) (u.2 4) r.2.2.2.2.2.1 ++ wGr K (u.1 12) (u.2 5) r.2.2.2.2.2.2) t) A)) (by decide) (Nat.le_of_ble_eq_true rfl) ?_
  intro p e s m below meth c A ls En hEx hNS hsz hA hP hD hE hS hl
  have C : ((dc_C p s m (([.ref h0] : List Value).toArray) meth c cF_reduce 1 (Option.some Jvm.ClassFile.FieldType.int) yF_reduce ∧ cf_E D K A s s.heap ∧ ∀ q, s.heap.size ≤ q → A q) ∧ (∀ x ∈ c.exceptionTable.toList, False) ∧ l.stackTraces = false) := ⟨⟨En, hE, hA⟩, hEx, hl9⟩
  refine W_to (fun t9 h9 => ?_) (bF_reduce_0 C o0 o1 o2 o3 o4 o5 r h hP hD hS hl)
  rcases h9 with h9 | h9
  · exact h9.2
  · exact absurd h0c h9.1
set_option maxRecDepth 100000 in
theorem zxF_reduce (l : Launch) (hl9 : l.stackTraces = false) (D : va_G) (K : Nat → ClassId) (sz : Nat) (h0 : Nat) (h1 : Nat) (a1 : Nat → Nat) (h2 : Nat) (a2 : Nat → Nat) (h3 : Nat) (a3 : Nat → Nat) (h4 : Nat) (a4 : Nat → Nat) (h5 : Nat) (a5 : Nat → Nat) (z0 : Nat) (z3 : Nat) (z5 : Nat) (z6 : Nat) (z7 : Nat) (z8 : Nat) (z9 : Nat) (z10 : Nat) (z13 : Nat) (z14 : Nat) (o0 : cf_O) (o1 : cf_O) (o2 : cf_O) (o3 : cf_O) (o4 : cf_O) (o5 : cf_O) (r : Int32 × cf_O × cf_O × cf_O × cf_O × cf_O × cf_O) (h : fF_reduce o0 o1 o2 o3 o4 o5 = some r) (h0c : ¬ (r.2.1.1 30) = 0) : xt_MetG l yF_reduce (Cond.code yF_reduce cF_reduce 1 (Option.some Jvm.ClassFile.FieldType.int) :: cfB) ({ frames := 7, cells := (0 + xc (r.2.1.1 30)), slots := (0 + 6 * xc (r.2.1.1 30)), locals := 139 }) (va_Pc [.ref h0] (cf_Pre D K sz (wF K h0 (fF [z0, h1, h2, z3, h3, z5, z6, z7, z8, z9, z10, h4, h5, z13, z14]) o0 ++ wFu K h1 a1 o1 ++ wCu K h2 a2 o2 ++ wRe K h3 a3 o3 ++ wGr K h4 a4 o4 ++ wGr K h5 a5 o5))) (xE (r.2.1.1 30)) D (fun (u : uF) => wF K h0 (fF [z0, h1, h2, z3, h3, z5, z6, z7, z8, z9, z10, (u.1 11), (u.1 12), z13, z14]) r.2.1 ++ wFu K h1 a1 r.2.2.1 ++ wCu K h2 a2 r.2.2.2.1 ++ wRe K h3 a3 r.2.2.2.2.1 ++ wGr K (u.1 11) (u.2 4) r.2.2.2.2.2.1 ++ wGr K (u.1 12) (u.2 5) r.2.2.2.2.2.2) (va_A (wF K h0 (fF [z0, h1, h2, z3, h3, z5, z6, z7, z8, z9, z10, h4, h5, z13, z14]) o0 ++ wFu K h1 a1 o1 ++ wCu K h2 a2 o2 ++ wRe K h3 a3 o3 ++ wGr K h4 a4 o4 ++ wGr K h5 a5 o5) sz) (0 + xc (r.2.1.1 30)) (0 + 6 * xc (r.2.1.1 30)) := by
  refine xt_ofWG (y := yF_reduce) (As := [.ref h0]) (WS := wF K h0 (fF [z0, h1, h2, z3, h3, z5, z6, z7, z8, z9, z10, h4, h5, z13, z14]) o0 ++ wFu K h1 a1 o1 ++ wCu K h2 a2 o2 ++ wRe K h3 a3 o3 ++ wGr K h4 a4 o4 ++ wGr K h5 a5 o5) (maxL := 1) (by decide) (Nat.le_of_ble_eq_true rfl) ?_
  intro p e s m below meth c A ls En hEx hNS hsz hA hP hD hE hS hl
  have C : ((dc_C p s m (([.ref h0] : List Value).toArray) meth c cF_reduce 1 (Option.some Jvm.ClassFile.FieldType.int) yF_reduce ∧ cf_E D K A s s.heap ∧ ∀ q, s.heap.size ≤ q → A q) ∧ (∀ x ∈ c.exceptionTable.toList, False) ∧ l.stackTraces = false) := ⟨⟨En, hE, hA⟩, hEx, hl9⟩
  refine W_to (fun t9 h9 => ?_) (bF_reduce_0 C o0 o1 o2 o3 o4 o5 r h hP hD hS hl)
  rcases h9 with h9 | h9
  · exact absurd h9.1 h0c
  · exact h9.2
set_option maxRecDepth 100000 in
theorem nF_rewrite_67 (o0 : cf_O) (o1 : cf_O) (o2 : cf_O) (o3 : cf_O) (o4 : cf_O) (o5 : cf_O) (o6 : cf_O) (r : Int32 × cf_O × cf_O × cf_O × cf_O × cf_O × cf_O × cf_O) (h : fF_rewrite_67 o0 o1 o2 o3 o4 o5 o6 = some r) : phCu o2 ≤ phCu r.2.2.2.1 := by
  have hm : phCu o2 ≤ phCu o2 := Nat.le_refl _
  obtain rfl := Option.some.inj h
  exact hm
set_option maxRecDepth 100000 in
theorem nF_rewrite_63 (o0 : cf_O) (o1 : cf_O) (o2 : cf_O) (o3 : cf_O) (o4 : cf_O) (o5 : cf_O) (o6 : cf_O) (r : Int32 × cf_O × cf_O × cf_O × cf_O × cf_O × cf_O × cf_O) (h : fF_rewrite_63 o0 o1 o2 o3 o4 o5 o6 = some r) : phCu o2 ≤ phCu r.2.2.2.1 := by
  have hm : phCu o2 ≤ phCu o2 := Nat.le_refl _
  obtain ⟨q_1, hq_1, h⟩ := op_b h
  have hm : phCu o2 ≤ phCu q_1.2.2 := Nat.le_trans hm (nF_takeSpareNodes _ _ _ _ hq_1)
  rcases Classical.em ((q_1.1.1 30) = 0) with c_2 | c_2
  · have h := op_t c_2 h
    exact Nat.le_trans hm (nF_rewrite_67 _ _ _ _ _ _ _ _ h)
  · have h := op_f c_2 h
    obtain rfl := Option.some.inj h
    exact hm
set_option maxRecDepth 100000 in
theorem nF_rewrite_60 (s0 : Int32) (o0 : cf_O) (o1 : cf_O) (o2 : cf_O) (o3 : cf_O) (o4 : cf_O) (o5 : cf_O) (o6 : cf_O) (r : Int32 × cf_O × cf_O × cf_O × cf_O × cf_O × cf_O × cf_O) (h : fF_rewrite_60 s0 o0 o1 o2 o3 o4 o5 o6 = some r) : phCu o2 ≤ phCu r.2.2.2.1 := by
  have hm : phCu o2 ≤ phCu o2 := Nat.le_refl _
  rcases Classical.em (s0 = 0) with c_1 | c_1
  · have h := op_t c_1 h
    obtain rfl := Option.some.inj h
    exact hm
  · have h := op_f c_1 h
    exact Nat.le_trans hm (nF_rewrite_63 _ _ _ _ _ _ _ _ h)
set_option maxRecDepth 100000 in
theorem nF_rewrite_45 (o0 : cf_O) (o1 : cf_O) (o2 : cf_O) (o3 : cf_O) (o4 : cf_O) (o5 : cf_O) (o6 : cf_O) (r : Int32 × cf_O × cf_O × cf_O × cf_O × cf_O × cf_O × cf_O) (h : fF_rewrite_45 o0 o1 o2 o3 o4 o5 o6 = some r) : phCu o2 ≤ phCu r.2.2.2.1 := by
  have hm : phCu o2 ≤ phCu o2 := Nat.le_refl _
  rcases (Classical.em ((o6.1 3) = (0 : Int32))).symm with c_1 | c_1
  · have h := op_f c_1 h
    exact Nat.le_trans hm (nF_rewrite_60 _ _ _ _ _ _ _ _ _ h)
  · have h := op_t c_1 h
    exact Nat.le_trans hm (nF_rewrite_60 _ _ _ _ _ _ _ _ _ h)
set_option maxRecDepth 100000 in
theorem nF_rewrite_22 (o0 : cf_O) (o1 : cf_O) (o2 : cf_O) (o3 : cf_O) (o4 : cf_O) (o5 : cf_O) (o6 : cf_O) (r : Int32 × cf_O × cf_O × cf_O × cf_O × cf_O × cf_O × cf_O) (h : fF_rewrite_22 o0 o1 o2 o3 o4 o5 o6 = some r) : phCu o2 ≤ phCu r.2.2.2.1 := by
  have hm : phCu o2 ≤ phCu o2 := Nat.le_refl _
  obtain ⟨q_1, hq_1, h⟩ := op_b h
  exact Nat.le_trans hm (nF_rewrite_45 _ _ _ _ _ _ _ _ h)
set_option maxRecDepth 100000 in
theorem nF_rewrite_19 (s0 : Int32) (o0 : cf_O) (o1 : cf_O) (o2 : cf_O) (o3 : cf_O) (o4 : cf_O) (o5 : cf_O) (o6 : cf_O) (r : Int32 × cf_O × cf_O × cf_O × cf_O × cf_O × cf_O × cf_O) (h : fF_rewrite_19 s0 o0 o1 o2 o3 o4 o5 o6 = some r) : phCu o2 ≤ phCu r.2.2.2.1 := by
  have hm : phCu o2 ≤ phCu o2 := Nat.le_refl _
  rcases Classical.em (s0 = 0) with c_1 | c_1
  · have h := op_t c_1 h
    obtain rfl := Option.some.inj h
    exact hm
  · have h := op_f c_1 h
    exact Nat.le_trans hm (nF_rewrite_22 _ _ _ _ _ _ _ _ h)
set_option maxRecDepth 100000 in
theorem nF_rewrite_7 (o0 : cf_O) (o1 : cf_O) (o2 : cf_O) (o3 : cf_O) (o4 : cf_O) (o5 : cf_O) (o6 : cf_O) (r : Int32 × cf_O × cf_O × cf_O × cf_O × cf_O × cf_O × cf_O) (h : fF_rewrite_7 o0 o1 o2 o3 o4 o5 o6 = some r) : phCu o2 ≤ phCu r.2.2.2.1 := by
  have hm : phCu o2 ≤ phCu o2 := Nat.le_refl _
  obtain ⟨q_1, hq_1, h⟩ := op_b h
  have hm : phCu o2 ≤ phCu q_1.2 := Nat.le_trans hm (nCu_find _ _ _ _ hq_1)
  exact Nat.le_trans hm (nF_rewrite_19 _ _ _ _ _ _ _ _ _ h)
set_option maxRecDepth 100000 in
theorem nF_rewrite_0 (o0 : cf_O) (o1 : cf_O) (o2 : cf_O) (o3 : cf_O) (o4 : cf_O) (o5 : cf_O) (o6 : cf_O) (r : Int32 × cf_O × cf_O × cf_O × cf_O × cf_O × cf_O × cf_O) (h : fF_rewrite_0 o0 o1 o2 o3 o4 o5 o6 = some r) : phCu o2 ≤ phCu r.2.2.2.1 := by
  have hm : phCu o2 ≤ phCu o2 := Nat.le_refl _
  rcases Classical.em ((o0.1 16) = 0) with c_1 | c_1
  · have h := op_t c_1 h
    obtain rfl := Option.some.inj h
    exact hm
  · have h := op_f c_1 h
    exact Nat.le_trans hm (nF_rewrite_7 _ _ _ _ _ _ _ _ h)
theorem nF_rewrite (o0 : cf_O) (o1 : cf_O) (o2 : cf_O) (o3 : cf_O) (o4 : cf_O) (o5 : cf_O) (o6 : cf_O) (r : Int32 × cf_O × cf_O × cf_O × cf_O × cf_O × cf_O × cf_O) (h : fF_rewrite o0 o1 o2 o3 o4 o5 o6 = some r) : phCu o2 ≤ phCu r.2.2.2.1 := nF_rewrite_0  o0 o1 o2 o3 o4 o5 o6 r h
set_option maxHeartbeats 4000000 in
set_option maxRecDepth 100000 in
theorem bF_rewrite_67 {p : Program} {l : Launch} {e : Env} {s : State} {m : MethodId} {below : List Frame} {meth : Method} {c : Code} {A : Nat → Prop} {D : va_G} {K : Nat → ClassId} {h0 : Nat} {os : cf_O} {AR : Array Value} (C : ((dc_C p s m AR meth c cF_rewrite 1 (Option.some Jvm.ClassFile.FieldType.int) yF_rewrite ∧ cf_E D K A s s.heap ∧ ∀ q, s.heap.size ≤ q → A q) ∧ (∀ x ∈ c.exceptionTable.toList, False) ∧ l.stackTraces = false)) (o0 : cf_O) (o1 : cf_O) (o2 : cf_O) (o3 : cf_O) (o4 : cf_O) (o5 : cf_O) (o6 : cf_O) (r : Int32 × cf_O × cf_O × cf_O × cf_O × cf_O × cf_O × cf_O) (h : fF_rewrite_67 o0 o1 o2 o3 o4 o5 o6 = some r) {h1 h2 h3 h4 h5 h6 z0 z5 z6 z7 z8 z9 z10 z13 z14 : Nat} {a1 a2 a3 a4 a5 a6 : Nat → Nat} {H : Heap} {locs : List Loc} {ls : Array Slot} (hg : phCu os ≤ phCu o2) (hP : va_P D vwCl (wF K h0 (fF [z0, h1, h2, h3, h4, z5, z6, z7, z8, z9, z10, h5, h6, z13, z14]) o0 ++ wFu K h1 a1 o1 ++ wCu K h2 a2 o2 ++ wCo K h3 a3 o3 ++ wRe K h4 a4 o4 ++ wGr K h5 a5 o5 ++ wGr K h6 a6 o6) H) (hD : va_D A (wF K h0 (fF [z0, h1, h2, h3, h4, z5, z6, z7, z8, z9, z10, h5, h6, z13, z14]) o0 ++ wFu K h1 a1 o1 ++ wCu K h2 a2 o2 ++ wCo K h3 a3 o3 ++ wRe K h4 a4 o4 ++ wGr K h5 a5 o5 ++ wGr K h6 a6 o6)) (hS : va_S A s.heap H locs) (hl : lv_has ls 1 [(0, .ref h0)]) : W p l e ({ frames := 7, cells := (gC (phCu os) (phCu r.2.2.2.1) + xc (r.2.1.1 30)), slots := (gS (phCu os) (phCu r.2.2.2.1) + 6 * xc (r.2.1.1 30)), locals := 206 }) s m AR below meth c H locs (gC (phCu os) (phCu o2)) (gS (phCu os) (phCu o2)) (xq below (r.2.1.1 30) (va_Qi (fun (x : Int32) (_ : uF) => x = r.1) (fun (u : uF) t => cf_At D A (wF K h0 (fF [z0, h1, h2, h3, h4, z5, z6, z7, z8, z9, z10, (u.1 11), (u.1 12), z13, z14]) r.2.1 ++ wFu K h1 a1 r.2.2.1 ++ wCu K h2 (u.2 2) r.2.2.2.1 ++ wCo K h3 a3 r.2.2.2.2.1 ++ wRe K h4 a4 r.2.2.2.2.2.1 ++ wGr K (u.1 11) (u.2 5) r.2.2.2.2.2.2.1 ++ wGr K (u.1 12) (u.2 6) r.2.2.2.2.2.2.2) t) A) D (fun (u : uF) => wF K h0 (fF [z0, h1, h2, h3, h4, z5, z6, z7, z8, z9, z10, (u.1 11), (u.1 12), z13, z14]) r.2.1 ++ wFu K h1 a1 r.2.2.1 ++ wCu K h2 (u.2 2) r.2.2.2.1 ++ wCo K h3 a3 r.2.2.2.2.1 ++ wRe K h4 a4 r.2.2.2.2.2.1 ++ wGr K (u.1 11) (u.2 5) r.2.2.2.2.2.2.1 ++ wGr K (u.1 12) (u.2 6) r.2.2.2.2.2.2.2) A AR s (gC (phCu os) (phCu r.2.2.2.1) + xc (r.2.1.1 30)) (gS (phCu os) (phCu r.2.2.2.1) + 6 * xc (r.2.1.1 30))) (F0 m 67 ls []) := by
  have hEx := C.2.1
  have hl9 := C.2.2
  obtain ⟨⟨hx, hb, hr, hts, hown, hlocks, hin, hml⟩, hE, hA⟩ := id C.1
  have hK := hE.k
  refine lv_aload_n hx hb dF_rewrite_67 rfl (lv_at hl 0 rfl) ?_
  refine va_get (D := D) (ci := 0) (v := .ref h5) (C := RF) (T := TF) (N := 19) hx hb hts inF hown hK hP 0 rfl rfl 11 (by decide) (hts _ wv_672) (fun _ h9 => h9) rfl dF_rewrite_68 ?_
  refine va_get (D := D) (ci := 3) (v := .int (o5.1 2)) (C := RGr) (T := TGr) (N := 10) hx hb hts inGr hown hK hP 26 rfl rfl 2 (by decide) (hts _ wv_557) (fun _ h9 => h9) rfl dF_rewrite_71 ?_
  obtain rfl := Option.some.inj h
  exact dc_iretF ((fF [z0, h1, h2, h3, h4, z5, z6, z7, z8, z9, z10, h5, h6, z13, z14]), (vF [(fun _ => 0), a1, a2, a3, a4, a5, a6])) rfl hx hb hr hlocks rfl (hP.sub [0, 1, 2, 3, 4, 5, 6, 7, 8, 9, 10, 11, 12, 13, 14, 15, 16, 17, 18, 19, 20, 21, 22, 23, 24, 25, 26, 27, 28, 29, 30, 31, 32, 33, 34, 35, 36, 37, 38, 39] rfl) (hD.sub [0, 1, 2, 3, 4, 5, 6, 7, 8, 9, 10, 11, 12, 13, 14, 15, 16, 17, 18, 19, 20, 21, 22, 23, 24, 25, 26, 27, 28, 29, 30, 31, 32, 33, 34, 35, 36, 37, 38, 39] (by decide +kernel) rfl) hS (Nat.le_add_right _ _) (Nat.le_add_right _ _) dF_rewrite_74
set_option maxHeartbeats 4000000 in
set_option maxRecDepth 100000 in
theorem bF_rewrite_63 {p : Program} {l : Launch} {e : Env} {s : State} {m : MethodId} {below : List Frame} {meth : Method} {c : Code} {A : Nat → Prop} {D : va_G} {K : Nat → ClassId} {h0 : Nat} {os : cf_O} {AR : Array Value} (C : ((dc_C p s m AR meth c cF_rewrite 1 (Option.some Jvm.ClassFile.FieldType.int) yF_rewrite ∧ cf_E D K A s s.heap ∧ ∀ q, s.heap.size ≤ q → A q) ∧ (∀ x ∈ c.exceptionTable.toList, False) ∧ l.stackTraces = false)) (o0 : cf_O) (o1 : cf_O) (o2 : cf_O) (o3 : cf_O) (o4 : cf_O) (o5 : cf_O) (o6 : cf_O) (r : Int32 × cf_O × cf_O × cf_O × cf_O × cf_O × cf_O × cf_O) (h : fF_rewrite_63 o0 o1 o2 o3 o4 o5 o6 = some r) {h1 h2 h3 h4 h5 h6 z0 z5 z6 z7 z8 z9 z10 z13 z14 : Nat} {a1 a2 a3 a4 a5 a6 : Nat → Nat} {H : Heap} {locs : List Loc} {ls : Array Slot} (hg : phCu os ≤ phCu o2) (hP : va_P D vwCl (wF K h0 (fF [z0, h1, h2, h3, h4, z5, z6, z7, z8, z9, z10, h5, h6, z13, z14]) o0 ++ wFu K h1 a1 o1 ++ wCu K h2 a2 o2 ++ wCo K h3 a3 o3 ++ wRe K h4 a4 o4 ++ wGr K h5 a5 o5 ++ wGr K h6 a6 o6) H) (hD : va_D A (wF K h0 (fF [z0, h1, h2, h3, h4, z5, z6, z7, z8, z9, z10, h5, h6, z13, z14]) o0 ++ wFu K h1 a1 o1 ++ wCu K h2 a2 o2 ++ wCo K h3 a3 o3 ++ wRe K h4 a4 o4 ++ wGr K h5 a5 o5 ++ wGr K h6 a6 o6)) (hS : va_S A s.heap H locs) (hl : lv_has ls 1 [(0, .ref h0)]) : W p l e ({ frames := 7, cells := (gC (phCu os) (phCu r.2.2.2.1) + xc (r.2.1.1 30)), slots := (gS (phCu os) (phCu r.2.2.2.1) + 6 * xc (r.2.1.1 30)), locals := 206 }) s m AR below meth c H locs (gC (phCu os) (phCu o2)) (gS (phCu os) (phCu o2)) (xq below (r.2.1.1 30) (va_Qi (fun (x : Int32) (_ : uF) => x = r.1) (fun (u : uF) t => cf_At D A (wF K h0 (fF [z0, h1, h2, h3, h4, z5, z6, z7, z8, z9, z10, (u.1 11), (u.1 12), z13, z14]) r.2.1 ++ wFu K h1 a1 r.2.2.1 ++ wCu K h2 (u.2 2) r.2.2.2.1 ++ wCo K h3 a3 r.2.2.2.2.1 ++ wRe K h4 a4 r.2.2.2.2.2.1 ++ wGr K (u.1 11) (u.2 5) r.2.2.2.2.2.2.1 ++ wGr K (u.1 12) (u.2 6) r.2.2.2.2.2.2.2) t) A) D (fun (u : uF) => wF K h0 (fF [z0, h1, h2, h3, h4, z5, z6, z7, z8, z9, z10, (u.1 11), (u.1 12), z13, z14]) r.2.1 ++ wFu K h1 a1 r.2.2.1 ++ wCu K h2 (u.2 2) r.2.2.2.1 ++ wCo K h3 a3 r.2.2.2.2.1 ++ wRe K h4 a4 r.2.2.2.2.2.1 ++ wGr K (u.1 11) (u.2 5) r.2.2.2.2.2.2.1 ++ wGr K (u.1 12) (u.2 6) r.2.2.2.2.2.2.2) A AR s (gC (phCu os) (phCu r.2.2.2.1) + xc (r.2.1.1 30)) (gS (phCu os) (phCu r.2.2.2.1) + 6 * xc (r.2.1.1 30))) (F0 m 63 ls []) := by
  have hEx := C.2.1
  have hl9 := C.2.2
  obtain ⟨⟨hx, hb, hr, hts, hown, hlocks, hin, hml⟩, hE, hA⟩ := id C.1
  have hK := hE.k
  refine lv_aload_n hx hb dF_rewrite_63 rfl (lv_at hl 0 rfl) ?_
  obtain ⟨q_1, hq_1, h⟩ := op_b h
  rcases Classical.em ((q_1.1.1 30) = 0) with c_2 | c_2
  · have h := op_t c_2 h
    have hg_3 : phCu o2 ≤ phCu q_1.2.2 := nF_takeSpareNodes _ _ _ _ hq_1
    have hgr_4 : phCu q_1.2.2 ≤ phCu r.2.2.2.1 := nF_rewrite_67 _ _ _ _ _ _ _ _ h
    refine cf_callv (wc := wF K h0 (fF [z0, h1, h2, h3, h4, z5, z6, z7, z8, z9, z10, h5, h6, z13, z14]) o0 ++ wFu K h1 a1 o1 ++ wCu K h2 a2 o2) (wr := wCo K h3 a3 o3 ++ wRe K h4 a4 o4 ++ wGr K h5 a5 o5 ++ wGr K h6 a6 o6) (va_runV (As := []) (rest := []) ⟨hx, hb, hml, hown, hts⟩ (mF_takeSpareNodes l hl9 D K _ h0 h1 a1 h2 a2 z0 h3 h4 z5 z6 z7 z8 z9 z10 h5 h6 z13 z14 o0 o1 o2 _ hq_1 c_2) (cwV 0 hts (cf_GV wv_1085 wv_1087 wv_24 wv_157 wv_1088) rfl rfl rfl (by decide +kernel) ⟨Nat.le_of_ble_eq_true rfl, Nat.le_of_ble_eq_true rfl⟩) (cf_preV (wc := wF K h0 (fF [z0, h1, h2, h3, h4, z5, z6, z7, z8, z9, z10, h5, h6, z13, z14]) o0 ++ wFu K h1 a1 o1 ++ wCu K h2 a2 o2) hE hP hD hS hA rfl 0 rfl [0, 1, 2, 3, 4, 5, 6, 7, 8, 9, 10] rfl (by decide +kernel)) rfl rfl hl.1 rfl (lv_room (Nat.le_of_ble_eq_true rfl)) dF_rewrite_64 ⟨(by have hz := xc_z c_2; have e1 := gC_le (a := phCu os) hg_3; have e2 := gS_le (a := phCu os) hg_3; have e3 := gC_le (a := phCu os) hgr_4; have e4 := gS_le (a := phCu os) hgr_4; show (gC (phCu os) (phCu o2)) + (0 + xc (q_1.1.1 30)) ≤ (gC (phCu os) (phCu r.2.2.2.1)) + xc (r.2.1.1 30); omega), (by have hz := xc_z c_2; have e1 := gC_le (a := phCu os) hg_3; have e2 := gS_le (a := phCu os) hg_3; have e3 := gC_le (a := phCu os) hgr_4; have e4 := gS_le (a := phCu os) hgr_4; show (gS (phCu os) (phCu o2)) + (0 + 6 * xc (q_1.1.1 30)) ≤ (gS (phCu os) (phCu r.2.2.2.1)) + 6 * xc (r.2.1.1 30); omega)⟩) hP hD hS hA [0, 1, 2, 3, 4, 5, 6, 7, 8, 9, 10] [11, 12, 13, 14, 15, 16, 17, 18, 19, 20, 21, 22, 23, 24, 25, 26, 27, 28, 29, 30, 31, 32, 33, 34, 35, 36, 37, 38, 39] rfl rfl (by decide +kernel) (by decide +kernel) (fun u_5 H locs hw hP hD hS => ?_)
    refine W.widen (k := (gC (phCu os) (phCu q_1.2.2))) (n := (gS (phCu os) (phCu q_1.2.2))) (by have hz := xc_z c_2; have e1 := gC_le (a := phCu os) hg_3; have e2 := gS_le (a := phCu os) hg_3; have e3 := gC_le (a := phCu os) hgr_4; have e4 := gS_le (a := phCu os) hgr_4; show (gC (phCu os) (phCu o2)) + (0 + xc (q_1.1.1 30)) ≤ (gC (phCu os) (phCu q_1.2.2)); omega) (by have hz := xc_z c_2; have e1 := gC_le (a := phCu os) hg_3; have e2 := gS_le (a := phCu os) hg_3; have e3 := gC_le (a := phCu os) hgr_4; have e4 := gS_le (a := phCu os) hgr_4; show (gS (phCu os) (phCu o2)) + (0 + 6 * xc (q_1.1.1 30)) ≤ (gS (phCu os) (phCu q_1.2.2)); omega) ?_
    have hg : phCu os ≤ phCu q_1.2.2 := Nat.le_trans hg hg_3
    have hP : va_P D vwCl (wF K h0 (fF [z0, h1, h2, h3, h4, z5, z6, z7, z8, z9, z10, h6, h5, z13, z14]) q_1.1 ++ wFu K h1 a1 q_1.2.1 ++ wCu K h2 a2 q_1.2.2 ++ wCo K h3 a3 o3 ++ wRe K h4 a4 o4 ++ wGr K h5 a5 o5 ++ wGr K h6 a6 o6) H := hP.sub [29, 30, 31, 32, 33, 34, 35, 36, 37, 38, 39, 0, 1, 2, 3, 4, 5, 6, 7, 8, 9, 10, 11, 12, 13, 14, 15, 16, 17, 18, 19, 20, 21, 22, 23, 24, 25, 26, 27, 28] rfl
    have hD : va_D A (wF K h0 (fF [z0, h1, h2, h3, h4, z5, z6, z7, z8, z9, z10, h6, h5, z13, z14]) q_1.1 ++ wFu K h1 a1 q_1.2.1 ++ wCu K h2 a2 q_1.2.2 ++ wCo K h3 a3 o3 ++ wRe K h4 a4 o4 ++ wGr K h5 a5 o5 ++ wGr K h6 a6 o6) := hD.sub [29, 30, 31, 32, 33, 34, 35, 36, 37, 38, 39, 0, 1, 2, 3, 4, 5, 6, 7, 8, 9, 10, 11, 12, 13, 14, 15, 16, 17, 18, 19, 20, 21, 22, 23, 24, 25, 26, 27, 28] (by decide +kernel) rfl
    have hP : va_P D vwCl (wF K h0 (fF [z0, h1, h2, h3, h4, z5, z6, z7, z8, z9, z10, h6, h5, z13, z14]) q_1.1 ++ wFu K h1 a1 q_1.2.1 ++ wCu K h2 a2 q_1.2.2 ++ wCo K h3 a3 o3 ++ wRe K h4 a4 o4 ++ wGr K h6 a6 o6 ++ wGr K h5 a5 o5) H := hP.sub [0, 1, 2, 3, 4, 5, 6, 7, 8, 9, 10, 11, 12, 13, 14, 15, 16, 17, 18, 19, 20, 21, 22, 23, 24, 25, 33, 34, 35, 36, 37, 38, 39, 26, 27, 28, 29, 30, 31, 32] rfl
    have hD : va_D A (wF K h0 (fF [z0, h1, h2, h3, h4, z5, z6, z7, z8, z9, z10, h6, h5, z13, z14]) q_1.1 ++ wFu K h1 a1 q_1.2.1 ++ wCu K h2 a2 q_1.2.2 ++ wCo K h3 a3 o3 ++ wRe K h4 a4 o4 ++ wGr K h6 a6 o6 ++ wGr K h5 a5 o5) := hD.sub [0, 1, 2, 3, 4, 5, 6, 7, 8, 9, 10, 11, 12, 13, 14, 15, 16, 17, 18, 19, 20, 21, 22, 23, 24, 25, 33, 34, 35, 36, 37, 38, 39, 26, 27, 28, 29, 30, 31, 32] (by decide +kernel) rfl
    exact bF_rewrite_67 C _ _ _ _ _ _ _ _ h hg hP hD hS (lv_sub hl [0] rfl)
  · have h := op_f c_2 h
    obtain rfl := Option.some.inj h
    have hg_6 : phCu o2 ≤ phCu q_1.2.2 := nF_takeSpareNodes _ _ _ _ hq_1
    refine xt_callVG (wc := wF K h0 (fF [z0, h1, h2, h3, h4, z5, z6, z7, z8, z9, z10, h5, h6, z13, z14]) o0 ++ wFu K h1 a1 o1 ++ wCu K h2 a2 o2) (wr := wCo K h3 a3 o3 ++ wRe K h4 a4 o4 ++ wGr K h5 a5 o5 ++ wGr K h6 a6 o6) (As := []) (rest := []) ⟨hx, hb, hml, hown, hts⟩ (zxF_takeSpareNodes l hl9 D K _ h0 h1 a1 h2 a2 z0 h3 h4 z5 z6 z7 z8 z9 z10 h5 h6 z13 z14 o0 o1 o2 _ hq_1 c_2) (cwV 0 hts (cf_GV wv_1085 wv_1087 wv_24 wv_157 wv_1088) rfl rfl rfl (by decide +kernel) ⟨Nat.le_of_ble_eq_true rfl, Nat.le_of_ble_eq_true rfl⟩) (cf_preV (wc := wF K h0 (fF [z0, h1, h2, h3, h4, z5, z6, z7, z8, z9, z10, h5, h6, z13, z14]) o0 ++ wFu K h1 a1 o1 ++ wCu K h2 a2 o2) hE hP hD hS hA rfl 0 rfl [0, 1, 2, 3, 4, 5, 6, 7, 8, 9, 10] rfl (by decide +kernel)) rfl hl.1 (lv_room (Nat.le_of_ble_eq_true rfl)) dF_rewrite_64 ⟨(by have e1 := gC_le (a := phCu os) hg_6; have e2 := gS_le (a := phCu os) hg_6; show (gC (phCu os) (phCu o2)) + (0 + xc (q_1.1.1 30)) ≤ (gC (phCu os) (phCu q_1.2.2)) + xc (q_1.1.1 30); omega), (by have e1 := gC_le (a := phCu os) hg_6; have e2 := gS_le (a := phCu os) hg_6; show (gS (phCu os) (phCu o2)) + (0 + 6 * xc (q_1.1.1 30)) ≤ (gS (phCu os) (phCu q_1.2.2)) + 6 * xc (q_1.1.1 30); omega)⟩ hP hD hS hA [0, 1, 2, 3, 4, 5, 6, 7, 8, 9, 10] [11, 12, 13, 14, 15, 16, 17, 18, 19, 20, 21, 22, 23, 24, 25, 26, 27, 28, 29, 30, 31, 32, 33, 34, 35, 36, 37, 38, 39] rfl rfl (by decide +kernel) (by decide +kernel) (fun u q9 ce H locs hP hD hS hce hcv hcl => ?_)
    exact xt_outF ((fF [z0, h1, h2, h3, h4, z5, z6, z7, z8, z9, z10, h6, h5, z13, z14]), (vF [(fun _ => 0), a1, a2, a3, a4, a6, a5])) c_2 rfl hEx hlocks hce hcv hcl (hP.sub [29, 30, 31, 32, 33, 34, 35, 36, 37, 38, 39, 0, 1, 2, 3, 4, 5, 6, 7, 8, 9, 10, 11, 12, 13, 14, 22, 23, 24, 25, 26, 27, 28, 15, 16, 17, 18, 19, 20, 21] rfl) (hD.sub [29, 30, 31, 32, 33, 34, 35, 36, 37, 38, 39, 0, 1, 2, 3, 4, 5, 6, 7, 8, 9, 10, 11, 12, 13, 14, 22, 23, 24, 25, 26, 27, 28, 15, 16, 17, 18, 19, 20, 21] (by decide +kernel) rfl) hS (by have e1 := gC_le (a := phCu os) hg_6; have e2 := gS_le (a := phCu os) hg_6; show (gC (phCu os) (phCu o2)) + (0 + xc (q_1.1.1 30)) ≤ (gC (phCu os) (phCu q_1.2.2)) + xc (q_1.1.1 30); omega) (by have e1 := gC_le (a := phCu os) hg_6; have e2 := gS_le (a := phCu os) hg_6; show (gS (phCu os) (phCu o2)) + (0 + 6 * xc (q_1.1.1 30)) ≤ (gS (phCu os) (phCu q_1.2.2)) + 6 * xc (q_1.1.1 30); omega)
set_option maxHeartbeats 4000000 in
set_option maxRecDepth 100000 in
theorem bF_rewrite_60 {p : Program} {l : Launch} {e : Env} {s : State} {m : MethodId} {below : List Frame} {meth : Method} {c : Code} {A : Nat → Prop} {D : va_G} {K : Nat → ClassId} {h0 : Nat} {os : cf_O} {AR : Array Value} (C : ((dc_C p s m AR meth c cF_rewrite 1 (Option.some Jvm.ClassFile.FieldType.int) yF_rewrite ∧ cf_E D K A s s.heap ∧ ∀ q, s.heap.size ≤ q → A q) ∧ (∀ x ∈ c.exceptionTable.toList, False) ∧ l.stackTraces = false)) (s0 : Int32) (o0 : cf_O) (o1 : cf_O) (o2 : cf_O) (o3 : cf_O) (o4 : cf_O) (o5 : cf_O) (o6 : cf_O) (r : Int32 × cf_O × cf_O × cf_O × cf_O × cf_O × cf_O × cf_O) (h : fF_rewrite_60 s0 o0 o1 o2 o3 o4 o5 o6 = some r) {h1 h2 h3 h4 h5 h6 z0 z5 z6 z7 z8 z9 z10 z13 z14 : Nat} {a1 a2 a3 a4 a5 a6 : Nat → Nat} {H : Heap} {locs : List Loc} {ls : Array Slot} (hg : phCu os ≤ phCu o2) (hP : va_P D vwCl (wF K h0 (fF [z0, h1, h2, h3, h4, z5, z6, z7, z8, z9, z10, h5, h6, z13, z14]) o0 ++ wFu K h1 a1 o1 ++ wCu K h2 a2 o2 ++ wCo K h3 a3 o3 ++ wRe K h4 a4 o4 ++ wGr K h5 a5 o5 ++ wGr K h6 a6 o6) H) (hD : va_D A (wF K h0 (fF [z0, h1, h2, h3, h4, z5, z6, z7, z8, z9, z10, h5, h6, z13, z14]) o0 ++ wFu K h1 a1 o1 ++ wCu K h2 a2 o2 ++ wCo K h3 a3 o3 ++ wRe K h4 a4 o4 ++ wGr K h5 a5 o5 ++ wGr K h6 a6 o6)) (hS : va_S A s.heap H locs) (hl : lv_has ls 1 [(0, .ref h0)]) : W p l e ({ frames := 7, cells := (gC (phCu os) (phCu r.2.2.2.1) + xc (r.2.1.1 30)), slots := (gS (phCu os) (phCu r.2.2.2.1) + 6 * xc (r.2.1.1 30)), locals := 206 }) s m AR below meth c H locs (gC (phCu os) (phCu o2)) (gS (phCu os) (phCu o2)) (xq below (r.2.1.1 30) (va_Qi (fun (x : Int32) (_ : uF) => x = r.1) (fun (u : uF) t => cf_At D A (wF K h0 (fF [z0, h1, h2, h3, h4, z5, z6, z7, z8, z9, z10, (u.1 11), (u.1 12), z13, z14]) r.2.1 ++ wFu K h1 a1 r.2.2.1 ++ wCu K h2 (u.2 2) r.2.2.2.1 ++ wCo K h3 a3 r.2.2.2.2.1 ++ wRe K h4 a4 r.2.2.2.2.2.1 ++ wGr K (u.1 11) (u.2 5) r.2.2.2.2.2.2.1 ++ wGr K (u.1 12) (u.2 6) r.2.2.2.2.2.2.2) t) A) D (fun (u : uF) => wF K h0 (fF [z0, h1, h2, h3, h4, z5, z6, z7, z8, z9, z10, (u.1 11), (u.1 12), z13, z14]) r.2.1 ++ wFu K h1 a1 r.2.2.1 ++ wCu K h2 (u.2 2) r.2.2.2.1 ++ wCo K h3 a3 r.2.2.2.2.1 ++ wRe K h4 a4 r.2.2.2.2.2.1 ++ wGr K (u.1 11) (u.2 5) r.2.2.2.2.2.2.1 ++ wGr K (u.1 12) (u.2 6) r.2.2.2.2.2.2.2) A AR s (gC (phCu os) (phCu r.2.2.2.1) + xc (r.2.1.1 30)) (gS (phCu os) (phCu r.2.2.2.1) + 6 * xc (r.2.1.1 30))) (F0 m 60 ls [.int s0]) := by
  have hEx := C.2.1
  have hl9 := C.2.2
  obtain ⟨⟨hx, hb, hr, hts, hown, hlocks, hin, hml⟩, hE, hA⟩ := id C.1
  have hK := hE.k
  rcases Classical.em (s0 = 0) with c_1 | c_1
  · have h := op_t c_1 h
    obtain rfl := Option.some.inj h
    rw [c_1]
    refine xt_callS (wc := []) (wr := wF K h0 (fF [z0, h1, h2, h3, h4, z5, z6, z7, z8, z9, z10, h5, h6, z13, z14]) o0 ++ wFu K h1 a1 o1 ++ wCu K h2 a2 o2 ++ wCo K h3 a3 o3 ++ wRe K h4 a4 o4 ++ wGr K h5 a5 o5 ++ wGr K h6 a6 o6) (As := [.int 0]) (rest := []) ⟨hx, hb, hml, hown, hts⟩ (xF_needRoom l hl9 D K _) (va_cwS 1 hts (cf_GS wv_1082 wv_1083 wv_157 wv_1084) rfl rfl rfl (by decide +kernel) ⟨Nat.le_of_ble_eq_true rfl, Nat.le_of_ble_eq_true rfl⟩) (cf_preS (wc := []) hE hP hD hS hA [] rfl (by decide +kernel)) rfl hl.1 (lv_room (Nat.le_of_ble_eq_true rfl)) dF_rewrite_60 ⟨(xc_c (show (4 : Int32) ≠ 0 by decide)), (xc_s (show (4 : Int32) ≠ 0 by decide))⟩ hP hD hS hA [] [0, 1, 2, 3, 4, 5, 6, 7, 8, 9, 10, 11, 12, 13, 14, 15, 16, 17, 18, 19, 20, 21, 22, 23, 24, 25, 26, 27, 28, 29, 30, 31, 32, 33, 34, 35, 36, 37, 38, 39] rfl rfl (by decide +kernel) (by decide +kernel) (fun q9 ce H locs hP hD hS hce hcv hcl => ?_)
    exact xt_outF ((fF [z0, h1, h2, h3, h4, z5, z6, z7, z8, z9, z10, h5, h6, z13, z14]), (vF [(fun _ => 0), a1, a2, a3, a4, a5, a6])) (show (4 : Int32) ≠ 0 by decide) (show xE 4 = "java/lang/UnsupportedOperationException" from rfl) hEx hlocks hce hcv hcl (hP.sub [0, 1, 2, 3, 4, 5, 6, 7, 8, 9, 10, 11, 12, 13, 14, 15, 16, 17, 18, 19, 20, 21, 22, 23, 24, 25, 26, 27, 28, 29, 30, 31, 32, 33, 34, 35, 36, 37, 38, 39] rfl) (hD.sub [0, 1, 2, 3, 4, 5, 6, 7, 8, 9, 10, 11, 12, 13, 14, 15, 16, 17, 18, 19, 20, 21, 22, 23, 24, 25, 26, 27, 28, 29, 30, 31, 32, 33, 34, 35, 36, 37, 38, 39] (by decide +kernel) rfl) hS (xc_c (show (4 : Int32) ≠ 0 by decide)) (xc_s (show (4 : Int32) ≠ 0 by decide))
  · have h := op_f c_1 h
    have hgr_3 : phCu o2 ≤ phCu r.2.2.2.1 := nF_rewrite_63 _ _ _ _ _ _ _ _ h
    refine cf_pcallv (va_runS (As := [.int s0]) (rest := []) ⟨hx, hb, hml, hown, hts⟩ (kn_needRoom l s0 c_1) (va_cwS 1 hts (cf_GS wv_1082 wv_1083 wv_157 wv_1084) rfl rfl rfl (by decide +kernel) ⟨Nat.le_of_ble_eq_true rfl, Nat.le_of_ble_eq_true rfl⟩) preEq rfl rfl hl.1 rfl (lv_room (Nat.le_of_ble_eq_true rfl)) dF_rewrite_60 ⟨Nat.le_trans (gC_le hgr_3) (Nat.le_add_right _ _), Nat.le_trans (gS_le hgr_3) (Nat.le_add_right _ _)⟩) ?_
    exact bF_rewrite_63 C _ _ _ _ _ _ _ _ h hg hP hD hS (lv_sub hl [0] rfl)
set_option maxHeartbeats 4000000 in
set_option maxRecDepth 100000 in
theorem bF_rewrite_45 {p : Program} {l : Launch} {e : Env} {s : State} {m : MethodId} {below : List Frame} {meth : Method} {c : Code} {A : Nat → Prop} {D : va_G} {K : Nat → ClassId} {h0 : Nat} {os : cf_O} {AR : Array Value} (C : ((dc_C p s m AR meth c cF_rewrite 1 (Option.some Jvm.ClassFile.FieldType.int) yF_rewrite ∧ cf_E D K A s s.heap ∧ ∀ q, s.heap.size ≤ q → A q) ∧ (∀ x ∈ c.exceptionTable.toList, False) ∧ l.stackTraces = false)) (o0 : cf_O) (o1 : cf_O) (o2 : cf_O) (o3 : cf_O) (o4 : cf_O) (o5 : cf_O) (o6 : cf_O) (r : Int32 × cf_O × cf_O × cf_O × cf_O × cf_O × cf_O × cf_O) (h : fF_rewrite_45 o0 o1 o2 o3 o4 o5 o6 = some r) {h1 h2 h3 h4 h5 h6 z0 z5 z6 z7 z8 z9 z10 z13 z14 : Nat} {a1 a2 a3 a4 a5 a6 : Nat → Nat} {H : Heap} {locs : List Loc} {ls : Array Slot} (hg : phCu os ≤ phCu o2) (hP : va_P D vwCl (wF K h0 (fF [z0, h1, h2, h3, h4, z5, z6, z7, z8, z9, z10, h5, h6, z13, z14]) o0 ++ wFu K h1 a1 o1 ++ wCu K h2 a2 o2 ++ wCo K h3 a3 o3 ++ wRe K h4 a4 o4 ++ wGr K h5 a5 o5 ++ wGr K h6 a6 o6) H) (hD : va_D A (wF K h0 (fF [z0, h1, h2, h3, h4, z5, z6, z7, z8, z9, z10, h5, h6, z13, z14]) o0 ++ wFu K h1 a1 o1 ++ wCu K h2 a2 o2 ++ wCo K h3 a3 o3 ++ wRe K h4 a4 o4 ++ wGr K h5 a5 o5 ++ wGr K h6 a6 o6)) (hS : va_S A s.heap H locs) (hl : lv_has ls 1 [(0, .ref h0)]) : W p l e ({ frames := 7, cells := (gC (phCu os) (phCu r.2.2.2.1) + xc (r.2.1.1 30)), slots := (gS (phCu os) (phCu r.2.2.2.1) + 6 * xc (r.2.1.1 30)), locals := 206 }) s m AR below meth c H locs (gC (phCu os) (phCu o2)) (gS (phCu os) (phCu o2)) (xq below (r.2.1.1 30) (va_Qi (fun (x : Int32) (_ : uF) => x = r.1) (fun (u : uF) t => cf_At D A (wF K h0 (fF [z0, h1, h2, h3, h4, z5, z6, z7, z8, z9, z10, (u.1 11), (u.1 12), z13, z14]) r.2.1 ++ wFu K h1 a1 r.2.2.1 ++ wCu K h2 (u.2 2) r.2.2.2.1 ++ wCo K h3 a3 r.2.2.2.2.1 ++ wRe K h4 a4 r.2.2.2.2.2.1 ++ wGr K (u.1 11) (u.2 5) r.2.2.2.2.2.2.1 ++ wGr K (u.1 12) (u.2 6) r.2.2.2.2.2.2.2) t) A) D (fun (u : uF) => wF K h0 (fF [z0, h1, h2, h3, h4, z5, z6, z7, z8, z9, z10, (u.1 11), (u.1 12), z13, z14]) r.2.1 ++ wFu K h1 a1 r.2.2.1 ++ wCu K h2 (u.2 2) r.2.2.2.1 ++ wCo K h3 a3 r.2.2.2.2.1 ++ wRe K h4 a4 r.2.2.2.2.2.1 ++ wGr K (u.1 11) (u.2 5) r.2.2.2.2.2.2.1 ++ wGr K (u.1 12) (u.2 6) r.2.2.2.2.2.2.2) A AR s (gC (phCu os) (phCu r.2.2.2.1) + xc (r.2.1.1 30)) (gS (phCu os) (phCu r.2.2.2.1) + 6 * xc (r.2.1.1 30))) (F0 m 45 ls []) := by
  have hEx := C.2.1
  have hl9 := C.2.2
  obtain ⟨⟨hx, hb, hr, hts, hown, hlocks, hin, hml⟩, hE, hA⟩ := id C.1
  have hK := hE.k
  refine lv_aload_n hx hb dF_rewrite_45 rfl (lv_at hl 0 rfl) ?_
  refine va_get (D := D) (ci := 0) (v := .ref h6) (C := RF) (T := TF) (N := 19) hx hb hts inF hown hK hP 0 rfl rfl 12 (by decide) (hts _ wv_673) (fun _ h9 => h9) rfl dF_rewrite_46 ?_
  refine va_get (D := D) (ci := 3) (v := .int (o6.1 3)) (C := RGr) (T := TGr) (N := 10) hx hb hts inGr hown hK hP 33 rfl rfl 3 (by decide) (hts _ wv_559) (fun _ h9 => h9) rfl dF_rewrite_49 ?_
  refine lv_if_ne (tgt := 59) hx hb dF_rewrite_52 (by decide) (fun c_1 => ?_) (fun c_1 => ?_)
  · have h := op_f c_1 h
    refine lv_iconst (v := 0) hx hb dF_rewrite_59 (by decide) ?_
    exact bF_rewrite_60 C _ _ _ _ _ _ _ _ _ h hg hP hD hS (lv_sub hl [0] rfl)
  · have h := op_t c_1 h
    refine lv_iconst (v := 1) hx hb dF_rewrite_55 (by decide) ?_
    refine lv_goto (tgt := 60) hx hb dF_rewrite_56 (by decide) ?_
    exact bF_rewrite_60 C _ _ _ _ _ _ _ _ _ h hg hP hD hS (lv_sub hl [0] rfl)
set_option maxHeartbeats 4000000 in
set_option maxRecDepth 100000 in
theorem bF_rewrite_22 {p : Program} {l : Launch} {e : Env} {s : State} {m : MethodId} {below : List Frame} {meth : Method} {c : Code} {A : Nat → Prop} {D : va_G} {K : Nat → ClassId} {h0 : Nat} {os : cf_O} {AR : Array Value} (C : ((dc_C p s m AR meth c cF_rewrite 1 (Option.some Jvm.ClassFile.FieldType.int) yF_rewrite ∧ cf_E D K A s s.heap ∧ ∀ q, s.heap.size ≤ q → A q) ∧ (∀ x ∈ c.exceptionTable.toList, False) ∧ l.stackTraces = false)) (o0 : cf_O) (o1 : cf_O) (o2 : cf_O) (o3 : cf_O) (o4 : cf_O) (o5 : cf_O) (o6 : cf_O) (r : Int32 × cf_O × cf_O × cf_O × cf_O × cf_O × cf_O × cf_O) (h : fF_rewrite_22 o0 o1 o2 o3 o4 o5 o6 = some r) {h1 h2 h3 h4 h5 h6 z0 z5 z6 z7 z8 z9 z10 z13 z14 : Nat} {a1 a2 a3 a4 a5 a6 : Nat → Nat} {H : Heap} {locs : List Loc} {ls : Array Slot} (hg : phCu os ≤ phCu o2) (hP : va_P D vwCl (wF K h0 (fF [z0, h1, h2, h3, h4, z5, z6, z7, z8, z9, z10, h5, h6, z13, z14]) o0 ++ wFu K h1 a1 o1 ++ wCu K h2 a2 o2 ++ wCo K h3 a3 o3 ++ wRe K h4 a4 o4 ++ wGr K h5 a5 o5 ++ wGr K h6 a6 o6) H) (hD : va_D A (wF K h0 (fF [z0, h1, h2, h3, h4, z5, z6, z7, z8, z9, z10, h5, h6, z13, z14]) o0 ++ wFu K h1 a1 o1 ++ wCu K h2 a2 o2 ++ wCo K h3 a3 o3 ++ wRe K h4 a4 o4 ++ wGr K h5 a5 o5 ++ wGr K h6 a6 o6)) (hS : va_S A s.heap H locs) (hl : lv_has ls 1 [(0, .ref h0)]) : W p l e ({ frames := 7, cells := (gC (phCu os) (phCu r.2.2.2.1) + xc (r.2.1.1 30)), slots := (gS (phCu os) (phCu r.2.2.2.1) + 6 * xc (r.2.1.1 30)), locals := 206 }) s m AR below meth c H locs (gC (phCu os) (phCu o2)) (gS (phCu os) (phCu o2)) (xq below (r.2.1.1 30) (va_Qi (fun (x : Int32) (_ : uF) => x = r.1) (fun (u : uF) t => cf_At D A (wF K h0 (fF [z0, h1, h2, h3, h4, z5, z6, z7, z8, z9, z10, (u.1 11), (u.1 12), z13, z14]) r.2.1 ++ wFu K h1 a1 r.2.2.1 ++ wCu K h2 (u.2 2) r.2.2.2.1 ++ wCo K h3 a3 r.2.2.2.2.1 ++ wRe K h4 a4 r.2.2.2.2.2.1 ++ wGr K (u.1 11) (u.2 5) r.2.2.2.2.2.2.1 ++ wGr K (u.1 12) (u.2 6) r.2.2.2.2.2.2.2) t) A) D (fun (u : uF) => wF K h0 (fF [z0, h1, h2, h3, h4, z5, z6, z7, z8, z9, z10, (u.1 11), (u.1 12), z13, z14]) r.2.1 ++ wFu K h1 a1 r.2.2.1 ++ wCu K h2 (u.2 2) r.2.2.2.1 ++ wCo K h3 a3 r.2.2.2.2.1 ++ wRe K h4 a4 r.2.2.2.2.2.1 ++ wGr K (u.1 11) (u.2 5) r.2.2.2.2.2.2.1 ++ wGr K (u.1 12) (u.2 6) r.2.2.2.2.2.2.2) A AR s (gC (phCu os) (phCu r.2.2.2.1) + xc (r.2.1.1 30)) (gS (phCu os) (phCu r.2.2.2.1) + 6 * xc (r.2.1.1 30))) (F0 m 22 ls []) := by
  have hEx := C.2.1
  have hl9 := C.2.2
  obtain ⟨⟨hx, hb, hr, hts, hown, hlocks, hin, hml⟩, hE, hA⟩ := id C.1
  have hK := hE.k
  refine lv_aload_n hx hb dF_rewrite_22 rfl (lv_at hl 0 rfl) ?_
  refine va_get (D := D) (ci := 0) (v := .ref h4) (C := RF) (T := TF) (N := 19) hx hb hts inF hown hK hP 0 rfl rfl 4 (by decide) (hts _ wv_665) (fun _ h9 => h9) rfl dF_rewrite_23 ?_
  refine lv_aload_n hx hb dF_rewrite_26 rfl (lv_at hl 0 rfl) ?_
  refine va_get (D := D) (ci := 0) (v := .ref h5) (C := RF) (T := TF) (N := 19) hx hb hts inF hown hK hP 0 rfl rfl 11 (by decide) (hts _ wv_672) (fun _ h9 => h9) rfl dF_rewrite_27 ?_
  refine lv_aload_n hx hb dF_rewrite_30 rfl (lv_at hl 0 rfl) ?_
  refine va_get (D := D) (ci := 0) (v := .ref h6) (C := RF) (T := TF) (N := 19) hx hb hts inF hown hK hP 0 rfl rfl 12 (by decide) (hts _ wv_673) (fun _ h9 => h9) rfl dF_rewrite_31 ?_
  refine lv_aload_n hx hb dF_rewrite_34 rfl (lv_at hl 0 rfl) ?_
  refine va_get (D := D) (ci := 0) (v := .ref h2) (C := RF) (T := TF) (N := 19) hx hb hts inF hown hK hP 0 rfl rfl 2 (by decide) (hts _ wv_663) (fun _ h9 => h9) rfl dF_rewrite_35 ?_
  refine lv_aload_n hx hb dF_rewrite_38 rfl (lv_at hl 0 rfl) ?_
  refine va_get (D := D) (ci := 0) (v := .ref h3) (C := RF) (T := TF) (N := 19) hx hb hts inF hown hK hP 0 rfl rfl 3 (by decide) (hts _ wv_664) (fun _ h9 => h9) rfl dF_rewrite_39 ?_
  obtain ⟨q_1, hq_1, h⟩ := op_b h
  have hgr_2 : phCu o2 ≤ phCu r.2.2.2.1 := nF_rewrite_45 _ _ _ _ _ _ _ _ h
  refine cf_callv (wc := wRe K h4 a4 o4 ++ wGr K h5 a5 o5 ++ wGr K h6 a6 o6 ++ wCu K h2 a2 o2 ++ wCo K h3 a3 o3) (wr := wF K h0 (fF [z0, h1, h2, h3, h4, z5, z6, z7, z8, z9, z10, h5, h6, z13, z14]) o0 ++ wFu K h1 a1 o1) (va_runV (As := [.ref h5, .ref h6, .ref h2, .ref h3]) (rest := []) ⟨hx, hb, hml, hown, hts⟩ (mRe_makeRewritten l D K _ h4 a4 h5 a5 h6 a6 h2 a2 h3 a3 o4 o5 o6 o2 o3 _ hq_1) (cwV 4 hts (cf_GV wv_1332 wv_1333 wv_1334 wv_162 wv_1335) rfl rfl rfl (by decide +kernel) ⟨Nat.le_of_ble_eq_true rfl, Nat.le_of_ble_eq_true rfl⟩) (cf_preV (wc := wRe K h4 a4 o4 ++ wGr K h5 a5 o5 ++ wGr K h6 a6 o6 ++ wCu K h2 a2 o2 ++ wCo K h3 a3 o3) hE hP hD hS hA rfl 15 rfl [15, 16, 17, 18, 19, 20, 21, 22, 23, 24, 25, 26, 27, 28, 29, 30, 31, 32, 33, 34, 35, 36, 37, 38, 39, 6, 7, 8, 9, 10, 11, 12, 13, 14] rfl (by decide +kernel)) rfl rfl hl.1 rfl (lv_room (Nat.le_of_ble_eq_true rfl)) dF_rewrite_42 ⟨Nat.le_trans (gC_le hgr_2) (Nat.le_add_right _ _), Nat.le_trans (gS_le hgr_2) (Nat.le_add_right _ _)⟩) hP hD hS hA [15, 16, 17, 18, 19, 20, 21, 22, 23, 24, 25, 26, 27, 28, 29, 30, 31, 32, 33, 34, 35, 36, 37, 38, 39, 6, 7, 8, 9, 10, 11, 12, 13, 14] [0, 1, 2, 3, 4, 5] rfl rfl (by decide +kernel) (by decide +kernel) (fun _ H locs hw_4 hP hD hS => ?_)
  have hP : va_P D vwCl (wF K h0 (fF [z0, h1, h2, h3, h4, z5, z6, z7, z8, z9, z10, h5, h6, z13, z14]) o0 ++ wFu K h1 a1 o1 ++ wCu K h2 a2 o2 ++ wCo K h3 a3 q_1.2.2 ++ wRe K h4 a4 q_1.1 ++ wGr K h5 a5 o5 ++ wGr K h6 a6 q_1.2.1) H := hP.sub [0, 1, 2, 3, 4, 5, 31, 32, 33, 34, 35, 36, 37, 38, 39, 6, 7, 8, 9, 10, 11, 12, 13, 14, 15, 16, 17, 18, 19, 20, 21, 22, 23, 24, 25, 26, 27, 28, 29, 30] rfl
  have hD : va_D A (wF K h0 (fF [z0, h1, h2, h3, h4, z5, z6, z7, z8, z9, z10, h5, h6, z13, z14]) o0 ++ wFu K h1 a1 o1 ++ wCu K h2 a2 o2 ++ wCo K h3 a3 q_1.2.2 ++ wRe K h4 a4 q_1.1 ++ wGr K h5 a5 o5 ++ wGr K h6 a6 q_1.2.1) := hD.sub [0, 1, 2, 3, 4, 5, 31, 32, 33, 34, 35, 36, 37, 38, 39, 6, 7, 8, 9, 10, 11, 12, 13, 14, 15, 16, 17, 18, 19, 20, 21, 22, 23, 24, 25, 26, 27, 28, 29, 30] (by decide +kernel) rfl
  refine W.widen (k := (gC (phCu os) (phCu o2))) (n := (gS (phCu os) (phCu o2))) (Nat.le_refl _) (Nat.le_refl _) ?_
  exact bF_rewrite_45 C _ _ _ _ _ _ _ _ h hg hP hD hS (lv_sub hl [0] rfl)
set_option maxHeartbeats 4000000 in
set_option maxRecDepth 100000 in
theorem bF_rewrite_19 {p : Program} {l : Launch} {e : Env} {s : State} {m : MethodId} {below : List Frame} {meth : Method} {c : Code} {A : Nat → Prop} {D : va_G} {K : Nat → ClassId} {h0 : Nat} {os : cf_O} {AR : Array Value} (C : ((dc_C p s m AR meth c cF_rewrite 1 (Option.some Jvm.ClassFile.FieldType.int) yF_rewrite ∧ cf_E D K A s s.heap ∧ ∀ q, s.heap.size ≤ q → A q) ∧ (∀ x ∈ c.exceptionTable.toList, False) ∧ l.stackTraces = false)) (s0 : Int32) (o0 : cf_O) (o1 : cf_O) (o2 : cf_O) (o3 : cf_O) (o4 : cf_O) (o5 : cf_O) (o6 : cf_O) (r : Int32 × cf_O × cf_O × cf_O × cf_O × cf_O × cf_O × cf_O) (h : fF_rewrite_19 s0 o0 o1 o2 o3 o4 o5 o6 = some r) {h1 h2 h3 h4 h5 h6 z0 z5 z6 z7 z8 z9 z10 z13 z14 : Nat} {a1 a2 a3 a4 a5 a6 : Nat → Nat} {H : Heap} {locs : List Loc} {ls : Array Slot} (hg : phCu os ≤ phCu o2) (hP : va_P D vwCl (wF K h0 (fF [z0, h1, h2, h3, h4, z5, z6, z7, z8, z9, z10, h5, h6, z13, z14]) o0 ++ wFu K h1 a1 o1 ++ wCu K h2 a2 o2 ++ wCo K h3 a3 o3 ++ wRe K h4 a4 o4 ++ wGr K h5 a5 o5 ++ wGr K h6 a6 o6) H) (hD : va_D A (wF K h0 (fF [z0, h1, h2, h3, h4, z5, z6, z7, z8, z9, z10, h5, h6, z13, z14]) o0 ++ wFu K h1 a1 o1 ++ wCu K h2 a2 o2 ++ wCo K h3 a3 o3 ++ wRe K h4 a4 o4 ++ wGr K h5 a5 o5 ++ wGr K h6 a6 o6)) (hS : va_S A s.heap H locs) (hl : lv_has ls 1 [(0, .ref h0)]) : W p l e ({ frames := 7, cells := (gC (phCu os) (phCu r.2.2.2.1) + xc (r.2.1.1 30)), slots := (gS (phCu os) (phCu r.2.2.2.1) + 6 * xc (r.2.1.1 30)), locals := 206 }) s m AR below meth c H locs (gC (phCu os) (phCu o2)) (gS (phCu os) (phCu o2)) (xq below (r.2.1.1 30) (va_Qi (fun (x : Int32) (_ : uF) => x = r.1) (fun (u : uF) t => cf_At D A (wF K h0 (fF [z0, h1, h2, h3, h4, z5, z6, z7, z8, z9, z10, (u.1 11), (u.1 12), z13, z14]) r.2.1 ++ wFu K h1 a1 r.2.2.1 ++ wCu K h2 (u.2 2) r.2.2.2.1 ++ wCo K h3 a3 r.2.2.2.2.1 ++ wRe K h4 a4 r.2.2.2.2.2.1 ++ wGr K (u.1 11) (u.2 5) r.2.2.2.2.2.2.1 ++ wGr K (u.1 12) (u.2 6) r.2.2.2.2.2.2.2) t) A) D (fun (u : uF) => wF K h0 (fF [z0, h1, h2, h3, h4, z5, z6, z7, z8, z9, z10, (u.1 11), (u.1 12), z13, z14]) r.2.1 ++ wFu K h1 a1 r.2.2.1 ++ wCu K h2 (u.2 2) r.2.2.2.1 ++ wCo K h3 a3 r.2.2.2.2.1 ++ wRe K h4 a4 r.2.2.2.2.2.1 ++ wGr K (u.1 11) (u.2 5) r.2.2.2.2.2.2.1 ++ wGr K (u.1 12) (u.2 6) r.2.2.2.2.2.2.2) A AR s (gC (phCu os) (phCu r.2.2.2.1) + xc (r.2.1.1 30)) (gS (phCu os) (phCu r.2.2.2.1) + 6 * xc (r.2.1.1 30))) (F0 m 19 ls [.int s0]) := by
  have hEx := C.2.1
  have hl9 := C.2.2
  obtain ⟨⟨hx, hb, hr, hts, hown, hlocks, hin, hml⟩, hE, hA⟩ := id C.1
  have hK := hE.k
  rcases Classical.em (s0 = 0) with c_1 | c_1
  · have h := op_t c_1 h
    obtain rfl := Option.some.inj h
    rw [c_1]
    refine xt_callS (wc := []) (wr := wF K h0 (fF [z0, h1, h2, h3, h4, z5, z6, z7, z8, z9, z10, h5, h6, z13, z14]) o0 ++ wFu K h1 a1 o1 ++ wCu K h2 a2 o2 ++ wCo K h3 a3 o3 ++ wRe K h4 a4 o4 ++ wGr K h5 a5 o5 ++ wGr K h6 a6 o6) (As := [.int 0]) (rest := []) ⟨hx, hb, hml, hown, hts⟩ (xF_needRoom l hl9 D K _) (va_cwS 1 hts (cf_GS wv_1082 wv_1083 wv_157 wv_1084) rfl rfl rfl (by decide +kernel) ⟨Nat.le_of_ble_eq_true rfl, Nat.le_of_ble_eq_true rfl⟩) (cf_preS (wc := []) hE hP hD hS hA [] rfl (by decide +kernel)) rfl hl.1 (lv_room (Nat.le_of_ble_eq_true rfl)) dF_rewrite_19 ⟨(xc_c (show (4 : Int32) ≠ 0 by decide)), (xc_s (show (4 : Int32) ≠ 0 by decide))⟩ hP hD hS hA [] [0, 1, 2, 3, 4, 5, 6, 7, 8, 9, 10, 11, 12, 13, 14, 15, 16, 17, 18, 19, 20, 21, 22, 23, 24, 25, 26, 27, 28, 29, 30, 31, 32, 33, 34, 35, 36, 37, 38, 39] rfl rfl (by decide +kernel) (by decide +kernel) (fun q9 ce H locs hP hD hS hce hcv hcl => ?_)
    exact xt_outF ((fF [z0, h1, h2, h3, h4, z5, z6, z7, z8, z9, z10, h5, h6, z13, z14]), (vF [(fun _ => 0), a1, a2, a3, a4, a5, a6])) (show (4 : Int32) ≠ 0 by decide) (show xE 4 = "java/lang/UnsupportedOperationException" from rfl) hEx hlocks hce hcv hcl (hP.sub [0, 1, 2, 3, 4, 5, 6, 7, 8, 9, 10, 11, 12, 13, 14, 15, 16, 17, 18, 19, 20, 21, 22, 23, 24, 25, 26, 27, 28, 29, 30, 31, 32, 33, 34, 35, 36, 37, 38, 39] rfl) (hD.sub [0, 1, 2, 3, 4, 5, 6, 7, 8, 9, 10, 11, 12, 13, 14, 15, 16, 17, 18, 19, 20, 21, 22, 23, 24, 25, 26, 27, 28, 29, 30, 31, 32, 33, 34, 35, 36, 37, 38, 39] (by decide +kernel) rfl) hS (xc_c (show (4 : Int32) ≠ 0 by decide)) (xc_s (show (4 : Int32) ≠ 0 by decide))
  · have h := op_f c_1 h
    have hgr_3 : phCu o2 ≤ phCu r.2.2.2.1 := nF_rewrite_22 _ _ _ _ _ _ _ _ h
    refine cf_pcallv (va_runS (As := [.int s0]) (rest := []) ⟨hx, hb, hml, hown, hts⟩ (kn_needRoom l s0 c_1) (va_cwS 1 hts (cf_GS wv_1082 wv_1083 wv_157 wv_1084) rfl rfl rfl (by decide +kernel) ⟨Nat.le_of_ble_eq_true rfl, Nat.le_of_ble_eq_true rfl⟩) preEq rfl rfl hl.1 rfl (lv_room (Nat.le_of_ble_eq_true rfl)) dF_rewrite_19 ⟨Nat.le_trans (gC_le hgr_3) (Nat.le_add_right _ _), Nat.le_trans (gS_le hgr_3) (Nat.le_add_right _ _)⟩) ?_
    exact bF_rewrite_22 C _ _ _ _ _ _ _ _ h hg hP hD hS (lv_sub hl [0] rfl)
set_option maxHeartbeats 4000000 in
set_option maxRecDepth 100000 in
theorem bF_rewrite_7 {p : Program} {l : Launch} {e : Env} {s : State} {m : MethodId} {below : List Frame} {meth : Method} {c : Code} {A : Nat → Prop} {D : va_G} {K : Nat → ClassId} {h0 : Nat} {os : cf_O} {AR : Array Value} (C : ((dc_C p s m AR meth c cF_rewrite 1 (Option.some Jvm.ClassFile.FieldType.int) yF_rewrite ∧ cf_E D K A s s.heap ∧ ∀ q, s.heap.size ≤ q → A q) ∧ (∀ x ∈ c.exceptionTable.toList, False) ∧ l.stackTraces = false)) (o0 : cf_O) (o1 : cf_O) (o2 : cf_O) (o3 : cf_O) (o4 : cf_O) (o5 : cf_O) (o6 : cf_O) (r : Int32 × cf_O × cf_O × cf_O × cf_O × cf_O × cf_O × cf_O) (h : fF_rewrite_7 o0 o1 o2 o3 o4 o5 o6 = some r) {h1 h2 h3 h4 h5 h6 z0 z5 z6 z7 z8 z9 z10 z13 z14 : Nat} {a1 a2 a3 a4 a5 a6 : Nat → Nat} {H : Heap} {locs : List Loc} {ls : Array Slot} (hg : phCu os ≤ phCu o2) (hP : va_P D vwCl (wF K h0 (fF [z0, h1, h2, h3, h4, z5, z6, z7, z8, z9, z10, h5, h6, z13, z14]) o0 ++ wFu K h1 a1 o1 ++ wCu K h2 a2 o2 ++ wCo K h3 a3 o3 ++ wRe K h4 a4 o4 ++ wGr K h5 a5 o5 ++ wGr K h6 a6 o6) H) (hD : va_D A (wF K h0 (fF [z0, h1, h2, h3, h4, z5, z6, z7, z8, z9, z10, h5, h6, z13, z14]) o0 ++ wFu K h1 a1 o1 ++ wCu K h2 a2 o2 ++ wCo K h3 a3 o3 ++ wRe K h4 a4 o4 ++ wGr K h5 a5 o5 ++ wGr K h6 a6 o6)) (hS : va_S A s.heap H locs) (hl : lv_has ls 1 [(0, .ref h0)]) : W p l e ({ frames := 7, cells := (gC (phCu os) (phCu r.2.2.2.1) + xc (r.2.1.1 30)), slots := (gS (phCu os) (phCu r.2.2.2.1) + 6 * xc (r.2.1.1 30)), locals := 206 }) s m AR below meth c H locs (gC (phCu os) (phCu o2)) (gS (phCu os) (phCu o2)) (xq below (r.2.1.1 30) (va_Qi (fun (x : Int32) (_ : uF) => x = r.1) (fun (u : uF) t => cf_At D A (wF K h0 (fF [z0, h1, h2, h3, h4, z5, z6, z7, z8, z9, z10, (u.1 11), (u.1 12), z13, z14]) r.2.1 ++ wFu K h1 a1 r.2.2.1 ++ wCu K h2 (u.2 2) r.2.2.2.1 ++ wCo K h3 a3 r.2.2.2.2.1 ++ wRe K h4 a4 r.2.2.2.2.2.1 ++ wGr K (u.1 11) (u.2 5) r.2.2.2.2.2.2.1 ++ wGr K (u.1 12) (u.2 6) r.2.2.2.2.2.2.2) t) A) D (fun (u : uF) => wF K h0 (fF [z0, h1, h2, h3, h4, z5, z6, z7, z8, z9, z10, (u.1 11), (u.1 12), z13, z14]) r.2.1 ++ wFu K h1 a1 r.2.2.1 ++ wCu K h2 (u.2 2) r.2.2.2.1 ++ wCo K h3 a3 r.2.2.2.2.1 ++ wRe K h4 a4 r.2.2.2.2.2.1 ++ wGr K (u.1 11) (u.2 5) r.2.2.2.2.2.2.1 ++ wGr K (u.1 12) (u.2 6) r.2.2.2.2.2.2.2) A AR s (gC (phCu os) (phCu r.2.2.2.1) + xc (r.2.1.1 30)) (gS (phCu os) (phCu r.2.2.2.1) + 6 * xc (r.2.1.1 30))) (F0 m 7 ls []) := by
  have hEx := C.2.1
  have hl9 := C.2.2
  obtain ⟨⟨hx, hb, hr, hts, hown, hlocks, hin, hml⟩, hE, hA⟩ := id C.1
  have hK := hE.k
  refine lv_aload_n hx hb dF_rewrite_7 rfl (lv_at hl 0 rfl) ?_
  refine va_get (D := D) (ci := 0) (v := .ref h2) (C := RF) (T := TF) (N := 19) hx hb hts inF hown hK hP 0 rfl rfl 2 (by decide) (hts _ wv_663) (fun _ h9 => h9) rfl dF_rewrite_8 ?_
  refine lv_aload_n hx hb dF_rewrite_11 rfl (lv_at hl 0 rfl) ?_
  refine va_get (D := D) (ci := 0) (v := .ref h5) (C := RF) (T := TF) (N := 19) hx hb hts inF hown hK hP 0 rfl rfl 11 (by decide) (hts _ wv_672) (fun _ h9 => h9) rfl dF_rewrite_12 ?_
  refine lv_iconst (v := 4) hx hb dF_rewrite_15 (by decide) ?_
  obtain ⟨q_1, hq_1, h⟩ := op_b h
  have hgr_2 : phCu q_1.2 ≤ phCu r.2.2.2.1 := nF_rewrite_19 _ _ _ _ _ _ _ _ _ h
  have hg2_3 : phCu o2 ≤ phCu q_1.2 := nCu_find _ _ _ _ hq_1
  refine cf_calli (wc := wCu K h2 a2 o2 ++ wGr K h5 a5 o5) (wr := wF K h0 (fF [z0, h1, h2, h3, h4, z5, z6, z7, z8, z9, z10, h5, h6, z13, z14]) o0 ++ wFu K h1 a1 o1 ++ wCo K h3 a3 o3 ++ wRe K h4 a4 o4 ++ wGr K h6 a6 o6) (va_runV (As := [.ref h5, .int 4]) (rest := []) ⟨hx, hb, hml, hown, hts⟩ (mCu_find l D K _ 4 h2 a2 h5 a5 o2 o5 _ hq_1) (cwV 2 hts (cf_GV wv_1273 wv_1274 wv_1275 wv_160 wv_1276) rfl rfl rfl (by decide +kernel) ⟨Nat.le_of_ble_eq_true rfl, Nat.le_of_ble_eq_true rfl⟩) (cf_preV (wc := wCu K h2 a2 o2 ++ wGr K h5 a5 o5) hE hP hD hS hA rfl 6 rfl [6, 7, 8, 9, 10, 26, 27, 28, 29, 30, 31, 32] rfl (by decide +kernel)) rfl rfl hl.1 rfl (lv_room (Nat.le_of_ble_eq_true rfl)) dF_rewrite_16 ⟨Nat.le_trans (Nat.le_trans (gC_add hg hg2_3) (gC_le hgr_2)) (Nat.le_add_right _ _), Nat.le_trans (Nat.le_trans (gS_add hg hg2_3) (gS_le hgr_2)) (Nat.le_add_right _ _)⟩) hP hD hS hA [6, 7, 8, 9, 10, 26, 27, 28, 29, 30, 31, 32] [0, 1, 2, 3, 4, 5, 11, 12, 13, 14, 15, 16, 17, 18, 19, 20, 21, 22, 23, 24, 25, 33, 34, 35, 36, 37, 38, 39] rfl rfl (by decide +kernel) (by decide +kernel) (fun r_4 a2_6 H locs hw_5 hP hD hS => ?_)
  subst r_4
  have hP : va_P D vwCl (wF K h0 (fF [z0, h1, h2, h3, h4, z5, z6, z7, z8, z9, z10, h5, h6, z13, z14]) o0 ++ wFu K h1 a1 o1 ++ wCu K h2 a2_6 q_1.2 ++ wCo K h3 a3 o3 ++ wRe K h4 a4 o4 ++ wGr K h5 a5 o5 ++ wGr K h6 a6 o6) H := hP.sub [0, 1, 2, 3, 4, 5, 28, 29, 30, 31, 32, 6, 7, 8, 9, 10, 11, 12, 13, 14, 15, 16, 17, 18, 19, 20, 33, 34, 35, 36, 37, 38, 39, 21, 22, 23, 24, 25, 26, 27] rfl
  have hD : va_D A (wF K h0 (fF [z0, h1, h2, h3, h4, z5, z6, z7, z8, z9, z10, h5, h6, z13, z14]) o0 ++ wFu K h1 a1 o1 ++ wCu K h2 a2_6 q_1.2 ++ wCo K h3 a3 o3 ++ wRe K h4 a4 o4 ++ wGr K h5 a5 o5 ++ wGr K h6 a6 o6) := hD.sub [0, 1, 2, 3, 4, 5, 28, 29, 30, 31, 32, 6, 7, 8, 9, 10, 11, 12, 13, 14, 15, 16, 17, 18, 19, 20, 33, 34, 35, 36, 37, 38, 39, 21, 22, 23, 24, 25, 26, 27] (by decide +kernel) rfl
  refine W.widen (k := (gC (phCu os) (phCu q_1.2))) (n := (gS (phCu os) (phCu q_1.2))) (gC_add hg hg2_3) (gS_add hg hg2_3) ?_
  have hg : phCu os ≤ phCu q_1.2 := Nat.le_trans hg hg2_3
  exact bF_rewrite_19 C _ _ _ _ _ _ _ _ _ h hg hP hD hS (lv_sub hl [0] rfl)
set_option maxHeartbeats 4000000 in
set_option maxRecDepth 100000 in
theorem bF_rewrite_0 {p : Program} {l : Launch} {e : Env} {s : State} {m : MethodId} {below : List Frame} {meth : Method} {c : Code} {A : Nat → Prop} {D : va_G} {K : Nat → ClassId} {h0 : Nat} {os : cf_O} {AR : Array Value} (C : ((dc_C p s m AR meth c cF_rewrite 1 (Option.some Jvm.ClassFile.FieldType.int) yF_rewrite ∧ cf_E D K A s s.heap ∧ ∀ q, s.heap.size ≤ q → A q) ∧ (∀ x ∈ c.exceptionTable.toList, False) ∧ l.stackTraces = false)) (o0 : cf_O) (o1 : cf_O) (o2 : cf_O) (o3 : cf_O) (o4 : cf_O) (o5 : cf_O) (o6 : cf_O) (r : Int32 × cf_O × cf_O × cf_O × cf_O × cf_O × cf_O × cf_O) (h : fF_rewrite_0 o0 o1 o2 o3 o4 o5 o6 = some r) {h1 h2 h3 h4 h5 h6 z0 z5 z6 z7 z8 z9 z10 z13 z14 : Nat} {a1 a2 a3 a4 a5 a6 : Nat → Nat} {H : Heap} {locs : List Loc} {ls : Array Slot} (hg : phCu os ≤ phCu o2) (hP : va_P D vwCl (wF K h0 (fF [z0, h1, h2, h3, h4, z5, z6, z7, z8, z9, z10, h5, h6, z13, z14]) o0 ++ wFu K h1 a1 o1 ++ wCu K h2 a2 o2 ++ wCo K h3 a3 o3 ++ wRe K h4 a4 o4 ++ wGr K h5 a5 o5 ++ wGr K h6 a6 o6) H) (hD : va_D A (wF K h0 (fF [z0, h1, h2, h3, h4, z5, z6, z7, z8, z9, z10, h5, h6, z13, z14]) o0 ++ wFu K h1 a1 o1 ++ wCu K h2 a2 o2 ++ wCo K h3 a3 o3 ++ wRe K h4 a4 o4 ++ wGr K h5 a5 o5 ++ wGr K h6 a6 o6)) (hS : va_S A s.heap H locs) (hl : lv_has ls 1 [(0, .ref h0)]) : W p l e ({ frames := 7, cells := (gC (phCu os) (phCu r.2.2.2.1) + xc (r.2.1.1 30)), slots := (gS (phCu os) (phCu r.2.2.2.1) + 6 * xc (r.2.1.1 30)), locals := 206 }) s m AR below meth c H locs (gC (phCu os) (phCu o2)) (gS (phCu os) (phCu o2)) (xq below (r.2.1.1 30) (va_Qi (fun (x : Int32) (_ : uF) => x = r.1) (fun (u : uF) t => cf_At D A (wF K h0 (fF [z0, h1, h2, h3, h4, z5, z6, z7, z8, z9, z10, (u.1 11), (u.1 12), z13, z14]) r.2.1 ++ wFu K h1 a1 r.2.2.1 ++ wCu K h2 (u.2 2) r.2.2.2.1 ++ wCo K h3 a3 r.2.2.2.2.1 ++ wRe K h4 a4 r.2.2.2.2.2.1 ++ wGr K (u.1 11) (u.2 5) r.2.2.2.2.2.2.1 ++ wGr K (u.1 12) (u.2 6) r.2.2.2.2.2.2.2) t) A) D (fun (u : uF) => wF K h0 (fF [z0, h1, h2, h3, h4, z5, z6, z7, z8, z9, z10, (u.1 11), (u.1 12), z13, z14]) r.2.1 ++ wFu K h1 a1 r.2.2.1 ++ wCu K h2 (u.2 2) r.2.2.2.1 ++ wCo K h3 a3 r.2.2.2.2.1 ++ wRe K h4 a4 r.2.2.2.2.2.1 ++ wGr K (u.1 11) (u.2 5) r.2.2.2.2.2.2.1 ++ wGr K (u.1 12) (u.2 6) r.2.2.2.2.2.2.2) A AR s (gC (phCu os) (phCu r.2.2.2.1) + xc (r.2.1.1 30)) (gS (phCu os) (phCu r.2.2.2.1) + 6 * xc (r.2.1.1 30))) (F0 m 0 ls []) := by
  have hEx := C.2.1
  have hl9 := C.2.2
  obtain ⟨⟨hx, hb, hr, hts, hown, hlocks, hin, hml⟩, hE, hA⟩ := id C.1
  have hK := hE.k
  refine lv_aload_n hx hb dF_rewrite_0 rfl (lv_at hl 0 rfl) ?_
  refine va_get (D := D) (ci := 0) (v := .int (o0.1 16)) (C := RF) (T := TF) (N := 19) hx hb hts inF hown hK hP 0 rfl rfl 16 (by decide) (hts _ wv_677) (fun _ h9 => h9) rfl dF_rewrite_1 ?_
  rcases Classical.em ((o0.1 16) = 0) with c_1 | c_1
  · have h := op_t c_1 h
    obtain rfl := Option.some.inj h
    rw [c_1]
    refine xt_callS (wc := []) (wr := wF K h0 (fF [z0, h1, h2, h3, h4, z5, z6, z7, z8, z9, z10, h5, h6, z13, z14]) o0 ++ wFu K h1 a1 o1 ++ wCu K h2 a2 o2 ++ wCo K h3 a3 o3 ++ wRe K h4 a4 o4 ++ wGr K h5 a5 o5 ++ wGr K h6 a6 o6) (As := [.int 0]) (rest := []) ⟨hx, hb, hml, hown, hts⟩ (xF_needState l hl9 D K _) (va_cwS 1 hts (cf_GS wv_1097 wv_1098 wv_157 wv_1099) rfl rfl rfl (by decide +kernel) ⟨Nat.le_of_ble_eq_true rfl, Nat.le_of_ble_eq_true rfl⟩) (cf_preS (wc := []) hE hP hD hS hA [] rfl (by decide +kernel)) rfl hl.1 (lv_room (Nat.le_of_ble_eq_true rfl)) dF_rewrite_4 ⟨(xc_c (show (2 : Int32) ≠ 0 by decide)), (xc_s (show (2 : Int32) ≠ 0 by decide))⟩ hP hD hS hA [] [0, 1, 2, 3, 4, 5, 6, 7, 8, 9, 10, 11, 12, 13, 14, 15, 16, 17, 18, 19, 20, 21, 22, 23, 24, 25, 26, 27, 28, 29, 30, 31, 32, 33, 34, 35, 36, 37, 38, 39] rfl rfl (by decide +kernel) (by decide +kernel) (fun q9 ce H locs hP hD hS hce hcv hcl => ?_)
    exact xt_outF ((fF [z0, h1, h2, h3, h4, z5, z6, z7, z8, z9, z10, h5, h6, z13, z14]), (vF [(fun _ => 0), a1, a2, a3, a4, a5, a6])) (show (2 : Int32) ≠ 0 by decide) (show xE 2 = "java/lang/IllegalStateException" from rfl) hEx hlocks hce hcv hcl (hP.sub [0, 1, 2, 3, 4, 5, 6, 7, 8, 9, 10, 11, 12, 13, 14, 15, 16, 17, 18, 19, 20, 21, 22, 23, 24, 25, 26, 27, 28, 29, 30, 31, 32, 33, 34, 35, 36, 37, 38, 39] rfl) (hD.sub [0, 1, 2, 3, 4, 5, 6, 7, 8, 9, 10, 11, 12, 13, 14, 15, 16, 17, 18, 19, 20, 21, 22, 23, 24, 25, 26, 27, 28, 29, 30, 31, 32, 33, 34, 35, 36, 37, 38, 39] (by decide +kernel) rfl) hS (xc_c (show (2 : Int32) ≠ 0 by decide)) (xc_s (show (2 : Int32) ≠ 0 by decide))
  · have h := op_f c_1 h
    have hgr_3 : phCu o2 ≤ phCu r.2.2.2.1 := nF_rewrite_7 _ _ _ _ _ _ _ _ h
    refine cf_pcallv (va_runS (As := [.int (o0.1 16)]) (rest := []) ⟨hx, hb, hml, hown, hts⟩ (kn_needState l (o0.1 16) c_1) (va_cwS 1 hts (cf_GS wv_1097 wv_1098 wv_157 wv_1099) rfl rfl rfl (by decide +kernel) ⟨Nat.le_of_ble_eq_true rfl, Nat.le_of_ble_eq_true rfl⟩) preEq rfl rfl hl.1 rfl (lv_room (Nat.le_of_ble_eq_true rfl)) dF_rewrite_4 ⟨Nat.le_trans (gC_le hgr_3) (Nat.le_add_right _ _), Nat.le_trans (gS_le hgr_3) (Nat.le_add_right _ _)⟩) ?_
    exact bF_rewrite_7 C _ _ _ _ _ _ _ _ h hg hP hD hS (lv_sub hl [0] rfl)
set_option maxRecDepth 100000 in
theorem mF_rewrite (l : Launch) (hl9 : l.stackTraces = false) (D : va_G) (K : Nat → ClassId) (sz : Nat) (h0 : Nat) (h1 : Nat) (a1 : Nat → Nat) (h2 : Nat) (a2 : Nat → Nat) (h3 : Nat) (a3 : Nat → Nat) (h4 : Nat) (a4 : Nat → Nat) (h5 : Nat) (a5 : Nat → Nat) (h6 : Nat) (a6 : Nat → Nat) (z0 : Nat) (z5 : Nat) (z6 : Nat) (z7 : Nat) (z8 : Nat) (z9 : Nat) (z10 : Nat) (z13 : Nat) (z14 : Nat) (o0 : cf_O) (o1 : cf_O) (o2 : cf_O) (o3 : cf_O) (o4 : cf_O) (o5 : cf_O) (o6 : cf_O) (r : Int32 × cf_O × cf_O × cf_O × cf_O × cf_O × cf_O × cf_O) (h : fF_rewrite o0 o1 o2 o3 o4 o5 o6 = some r) (h0c : (r.2.1.1 30) = 0) : Met l yF_rewrite (Cond.code yF_rewrite cF_rewrite 1 (Option.some Jvm.ClassFile.FieldType.int) :: cfB) ({ frames := 7, cells := (gC (phCu o2) (phCu r.2.2.2.1) + xc (r.2.1.1 30)), slots := (gS (phCu o2) (phCu r.2.2.2.1) + 6 * xc (r.2.1.1 30)), locals := 206 }) (va_Pc [.ref h0] (cf_Pre D K sz (wF K h0 (fF [z0, h1, h2, h3, h4, z5, z6, z7, z8, z9, z10, h5, h6, z13, z14]) o0 ++ wFu K h1 a1 o1 ++ wCu K h2 a2 o2 ++ wCo K h3 a3 o3 ++ wRe K h4 a4 o4 ++ wGr K h5 a5 o5 ++ wGr K h6 a6 o6))) (va_Qi (fun (x : Int32) (_ : uF) => x = r.1) (fun (u : uF) t => cf_At D (va_A (wF K h0 (fF [z0, h1, h2, h3, h4, z5, z6, z7, z8, z9, z10, h5, h6, z13, z14]) o0 ++ wFu K h1 a1 o1 ++ wCu K h2 a2 o2 ++ wCo K h3 a3 o3 ++ wRe K h4 a4 o4 ++ wGr K h5 a5 o5 ++ wGr K h6 a6 o6) sz) (wF K h0 (fF [z0, h1, h2, h3, h4, z5, z6, z7, z8, z9, z10, (u.1 11), (u.1 12), z13, z14]) r.2.1 ++ wFu K h1 a1 r.2.2.1 ++ wCu K h2 (u.2 2) r.2.2.2.1 ++ wCo K h3 a3 r.2.2.2.2.1 ++ wRe K h4 a4 r.2.2.2.2.2.1 ++ wGr K (u.1 11) (u.2 5) r.2.2.2.2.2.2.1 ++ wGr K (u.1 12) (u.2 6) r.2.2.2.2.2.2.2) t) (va_A (wF K h0 (fF [z0, h1, h2, h3, h4, z5, z6, z7, z8, z9, z10, h5, h6, z13, z14]) o0 ++ wFu K h1 a1 o1 ++ wCu K h2 a2 o2 ++ wCo K h3 a3 o3 ++ wRe K h4 a4 o4 ++ wGr K h5 a5 o5 ++ wGr K h6 a6 o6) sz)) (gC (phCu o2) (phCu r.2.2.2.1) + xc (r.2.1.1 30)) (gS (phCu o2) (phCu r.2.2.2.1) + 6 * xc (r.2.1.1 30)) (va_A (wF K h0 (fF [z0, h1, h2, h3, h4, z5, z6, z7, z8, z9, z10, h5, h6, z13, z14]) o0 ++ wFu K h1 a1 o1 ++ wCu K h2 a2 o2 ++ wCo K h3 a3 o3 ++ wRe K h4 a4 o4 ++ wGr K h5 a5 o5 ++ wGr K h6 a6 o6) sz) := by
  refine cf_ofWF (y := yF_rewrite) (As := [.ref h0]) (WS := wF K h0 (fF [z0, h1, h2, h3, h4, z5, z6, z7, z8, z9, z10, h5, h6, z13, z14]) o0 ++ wFu K h1 a1 o1 ++ wCu K h2 a2 o2 ++ wCo K h3 a3 o3 ++ wRe K h4 a4 o4 ++ wGr K h5 a5 o5 ++ wGr K h6 a6 o6) (maxL := 1) (fun A => (va_Qi (fun (x : Int32) (_ : uF) => x = r.1) (fun (u : uF) t => cf_At D A (wF K h0 (fF [z0, h1, h2, h3, h4, z5, z6, z7, z8, z9, z10, (u.1 11), (u.1 12), z13, z14]) r.2.1 ++ wFu K h1 a1 r.2.2.1 ++ wCu K h2 (u.2 2) r.2.2.2.1 ++ wCo K h3 a3 r.2.2.2.2.1 ++ wRe K h4 a4 r.2.2.2.2.2.1 ++ wGr K (u.1 11) (u.2 5) r.2.2.2.2.2.2.1 ++ wGr K (u.1 12) (u.2 6) r.2.2.2.2.2.2.2) t) A)) (by decide) (Nat.le_of_ble_eq_true rfl) ?_
  intro p e s m below meth c A ls En hEx hNS hsz hA hP hD hE hS hl
  have C : ((dc_C p s m (([.ref h0] : List Value).toArray) meth c cF_rewrite 1 (Option.some Jvm.ClassFile.FieldType.int) yF_rewrite ∧ cf_E D K A s s.heap ∧ ∀ q, s.heap.size ≤ q → A q) ∧ (∀ x ∈ c.exceptionTable.toList, False) ∧ l.stackTraces = false) := ⟨⟨En, hE, hA⟩, hEx, hl9⟩
  refine W.widen (k := gC (phCu o2) (phCu o2)) (n := gS (phCu o2) (phCu o2)) (Nat.zero_le _) (Nat.zero_le _) ?_
  refine W_to (fun t9 h9 => ?_) (bF_rewrite_0 C o0 o1 o2 o3 o4 o5 o6 r h (Nat.le_refl _) hP hD hS hl)
  rcases h9 with h9 | h9
  · exact h9.2
  · exact absurd h0c h9.1
set_option maxRecDepth 100000 in
theorem zxF_rewrite (l : Launch) (hl9 : l.stackTraces = false) (D : va_G) (K : Nat → ClassId) (sz : Nat) (h0 : Nat) (h1 : Nat) (a1 : Nat → Nat) (h2 : Nat) (a2 : Nat → Nat) (h3 : Nat) (a3 : Nat → Nat) (h4 : Nat) (a4 : Nat → Nat) (h5 : Nat) (a5 : Nat → Nat) (h6 : Nat) (a6 : Nat → Nat) (z0 : Nat) (z5 : Nat) (z6 : Nat) (z7 : Nat) (z8 : Nat) (z9 : Nat) (z10 : Nat) (z13 : Nat) (z14 : Nat) (o0 : cf_O) (o1 : cf_O) (o2 : cf_O) (o3 : cf_O) (o4 : cf_O) (o5 : cf_O) (o6 : cf_O) (r : Int32 × cf_O × cf_O × cf_O × cf_O × cf_O × cf_O × cf_O) (h : fF_rewrite o0 o1 o2 o3 o4 o5 o6 = some r) (h0c : ¬ (r.2.1.1 30) = 0) : xt_MetG l yF_rewrite (Cond.code yF_rewrite cF_rewrite 1 (Option.some Jvm.ClassFile.FieldType.int) :: cfB) ({ frames := 7, cells := (gC (phCu o2) (phCu r.2.2.2.1) + xc (r.2.1.1 30)), slots := (gS (phCu o2) (phCu r.2.2.2.1) + 6 * xc (r.2.1.1 30)), locals := 206 }) (va_Pc [.ref h0] (cf_Pre D K sz (wF K h0 (fF [z0, h1, h2, h3, h4, z5, z6, z7, z8, z9, z10, h5, h6, z13, z14]) o0 ++ wFu K h1 a1 o1 ++ wCu K h2 a2 o2 ++ wCo K h3 a3 o3 ++ wRe K h4 a4 o4 ++ wGr K h5 a5 o5 ++ wGr K h6 a6 o6))) (xE (r.2.1.1 30)) D (fun (u : uF) => wF K h0 (fF [z0, h1, h2, h3, h4, z5, z6, z7, z8, z9, z10, (u.1 11), (u.1 12), z13, z14]) r.2.1 ++ wFu K h1 a1 r.2.2.1 ++ wCu K h2 (u.2 2) r.2.2.2.1 ++ wCo K h3 a3 r.2.2.2.2.1 ++ wRe K h4 a4 r.2.2.2.2.2.1 ++ wGr K (u.1 11) (u.2 5) r.2.2.2.2.2.2.1 ++ wGr K (u.1 12) (u.2 6) r.2.2.2.2.2.2.2) (va_A (wF K h0 (fF [z0, h1, h2, h3, h4, z5, z6, z7, z8, z9, z10, h5, h6, z13, z14]) o0 ++ wFu K h1 a1 o1 ++ wCu K h2 a2 o2 ++ wCo K h3 a3 o3 ++ wRe K h4 a4 o4 ++ wGr K h5 a5 o5 ++ wGr K h6 a6 o6) sz) (gC (phCu o2) (phCu r.2.2.2.1) + xc (r.2.1.1 30)) (gS (phCu o2) (phCu r.2.2.2.1) + 6 * xc (r.2.1.1 30)) := by
  refine xt_ofWG (y := yF_rewrite) (As := [.ref h0]) (WS := wF K h0 (fF [z0, h1, h2, h3, h4, z5, z6, z7, z8, z9, z10, h5, h6, z13, z14]) o0 ++ wFu K h1 a1 o1 ++ wCu K h2 a2 o2 ++ wCo K h3 a3 o3 ++ wRe K h4 a4 o4 ++ wGr K h5 a5 o5 ++ wGr K h6 a6 o6) (maxL := 1) (by decide) (Nat.le_of_ble_eq_true rfl) ?_
  intro p e s m below meth c A ls En hEx hNS hsz hA hP hD hE hS hl
  have C : ((dc_C p s m (([.ref h0] : List Value).toArray) meth c cF_rewrite 1 (Option.some Jvm.ClassFile.FieldType.int) yF_rewrite ∧ cf_E D K A s s.heap ∧ ∀ q, s.heap.size ≤ q → A q) ∧ (∀ x ∈ c.exceptionTable.toList, False) ∧ l.stackTraces = false) := ⟨⟨En, hE, hA⟩, hEx, hl9⟩
  refine W.widen (k := gC (phCu o2) (phCu o2)) (n := gS (phCu o2) (phCu o2)) (Nat.zero_le _) (Nat.zero_le _) ?_
  refine W_to (fun t9 h9 => ?_) (bF_rewrite_0 C o0 o1 o2 o3 o4 o5 o6 r h (Nat.le_refl _) hP hD hS hl)
  rcases h9 with h9 | h9
  · exact absurd h9.1 h0c
  · exact h9.2

def yTx_rewind : MethodName := ⟨"CellForge$Text", "rewind", "()V"⟩
abbrev cTx_rewind : ByteArray := prog_12_method_4_code
theorem dTx_rewind_0 : decode cTx_rewind 0 = .ok (.aload_n 0, 1) := by decide +kernel
theorem dTx_rewind_1 : decode cTx_rewind 1 = .ok (.iconst 0, 1) := by decide +kernel
theorem dTx_rewind_2 : decode cTx_rewind 2 = .ok (.putfield 26, 3) := by decide +kernel
theorem dTx_rewind_5 : decode cTx_rewind 5 = .ok (.aload_n 0, 1) := by decide +kernel
theorem dTx_rewind_6 : decode cTx_rewind 6 = .ok (.iconst (-1), 1) := by decide +kernel
theorem dTx_rewind_7 : decode cTx_rewind 7 = .ok (.putfield 29, 3) := by decide +kernel
theorem dTx_rewind_10 : decode cTx_rewind 10 = .ok (.return_, 1) := by decide +kernel
theorem wv_216 : Cond.fieldLink "CellForge$Text" 26 "CellForge$Text" "next" "I" ∈ cfB := cf_in 216 (by decide +kernel) rfl
theorem wv_211 : Cond.fieldLink "CellForge$Text" 29 "CellForge$Text" "number" "I" ∈ cfB := cf_in 211 (by decide +kernel) rfl
def yTx_splitLine : MethodName := ⟨"CellForge$Text", "splitLine", "()V"⟩
abbrev cTx_splitLine : ByteArray := prog_12_method_6_code
theorem dTx_splitLine_0 : decode cTx_splitLine 0 = .ok (.iconst 1, 1) := by decide +kernel
theorem dTx_splitLine_1 : decode cTx_splitLine 1 = .ok (.istore_n 1, 1) := by decide +kernel
theorem dTx_splitLine_2 : decode cTx_splitLine 2 = .ok (.iconst 0, 1) := by decide +kernel
theorem dTx_splitLine_3 : decode cTx_splitLine 3 = .ok (.istore_n 2, 1) := by decide +kernel
theorem dTx_splitLine_4 : decode cTx_splitLine 4 = .ok (.aload_n 0, 1) := by decide +kernel
theorem dTx_splitLine_5 : decode cTx_splitLine 5 = .ok (.getfield 26, 3) := by decide +kernel
theorem dTx_splitLine_8 : decode cTx_splitLine 8 = .ok (.istore_n 3, 1) := by decide +kernel
theorem dTx_splitLine_9 : decode cTx_splitLine 9 = .ok (.aload_n 0, 1) := by decide +kernel
theorem dTx_splitLine_10 : decode cTx_splitLine 10 = .ok (.iconst 0, 1) := by decide +kernel
theorem dTx_splitLine_11 : decode cTx_splitLine 11 = .ok (.putfield 35, 3) := by decide +kernel
theorem dTx_splitLine_14 : decode cTx_splitLine 14 = .ok (.iload_n 3, 1) := by decide +kernel
theorem dTx_splitLine_15 : decode cTx_splitLine 15 = .ok (.aload_n 0, 1) := by decide +kernel
theorem dTx_splitLine_16 : decode cTx_splitLine 16 = .ok (.getfield 22, 3) := by decide +kernel
theorem dTx_splitLine_19 : decode cTx_splitLine 19 = .ok (.if_icmp .ge 123, 3) := by decide +kernel
theorem dTx_splitLine_22 : decode cTx_splitLine 22 = .ok (.aload_n 0, 1) := by decide +kernel
theorem dTx_splitLine_23 : decode cTx_splitLine 23 = .ok (.getfield 11, 3) := by decide +kernel
theorem dTx_splitLine_26 : decode cTx_splitLine 26 = .ok (.iload_n 3, 1) := by decide +kernel
theorem dTx_splitLine_27 : decode cTx_splitLine 27 = .ok (.baload, 1) := by decide +kernel
theorem dTx_splitLine_28 : decode cTx_splitLine 28 = .ok (.bipush 10, 2) := by decide +kernel
theorem dTx_splitLine_30 : decode cTx_splitLine 30 = .ok (.if_icmp .eq 112, 3) := by decide +kernel
theorem dTx_splitLine_33 : decode cTx_splitLine 33 = .ok (.iload_n 1, 1) := by decide +kernel
theorem dTx_splitLine_34 : decode cTx_splitLine 34 = .ok (.ifCond .eq 18, 3) := by decide +kernel
theorem dTx_splitLine_37 : decode cTx_splitLine 37 = .ok (.aload_n 0, 1) := by decide +kernel
theorem dTx_splitLine_38 : decode cTx_splitLine 38 = .ok (.getfield 11, 3) := by decide +kernel
theorem dTx_splitLine_41 : decode cTx_splitLine 41 = .ok (.iload_n 3, 1) := by decide +kernel
theorem dTx_splitLine_42 : decode cTx_splitLine 42 = .ok (.baload, 1) := by decide +kernel
theorem dTx_splitLine_43 : decode cTx_splitLine 43 = .ok (.bipush 35, 2) := by decide +kernel
theorem dTx_splitLine_45 : decode cTx_splitLine 45 = .ok (.if_icmp .eq 7, 3) := by decide +kernel
theorem dTx_splitLine_48 : decode cTx_splitLine 48 = .ok (.iconst 1, 1) := by decide +kernel
theorem dTx_splitLine_49 : decode cTx_splitLine 49 = .ok (.goto 4, 3) := by decide +kernel
theorem dTx_splitLine_52 : decode cTx_splitLine 52 = .ok (.iconst 0, 1) := by decide +kernel
theorem dTx_splitLine_53 : decode cTx_splitLine 53 = .ok (.istore_n 1, 1) := by decide +kernel
theorem dTx_splitLine_54 : decode cTx_splitLine 54 = .ok (.iload_n 1, 1) := by decide +kernel
theorem dTx_splitLine_55 : decode cTx_splitLine 55 = .ok (.ifCond .eq 18, 3) := by decide +kernel
theorem dTx_splitLine_58 : decode cTx_splitLine 58 = .ok (.aload_n 0, 1) := by decide +kernel
theorem dTx_splitLine_59 : decode cTx_splitLine 59 = .ok (.getfield 11, 3) := by decide +kernel
theorem dTx_splitLine_62 : decode cTx_splitLine 62 = .ok (.iload_n 3, 1) := by decide +kernel
theorem dTx_splitLine_63 : decode cTx_splitLine 63 = .ok (.baload, 1) := by decide +kernel
theorem dTx_splitLine_64 : decode cTx_splitLine 64 = .ok (.bipush 32, 2) := by decide +kernel
theorem dTx_splitLine_66 : decode cTx_splitLine 66 = .ok (.if_icmp .eq 7, 3) := by decide +kernel
theorem dTx_splitLine_69 : decode cTx_splitLine 69 = .ok (.iconst 1, 1) := by decide +kernel
theorem dTx_splitLine_70 : decode cTx_splitLine 70 = .ok (.goto 4, 3) := by decide +kernel
theorem dTx_splitLine_73 : decode cTx_splitLine 73 = .ok (.iconst 0, 1) := by decide +kernel
theorem dTx_splitLine_74 : decode cTx_splitLine 74 = .ok (.istore 4, 2) := by decide +kernel
theorem dTx_splitLine_76 : decode cTx_splitLine 76 = .ok (.iload 4, 2) := by decide +kernel
theorem dTx_splitLine_78 : decode cTx_splitLine 78 = .ok (.ifCond .eq 36, 3) := by decide +kernel
theorem dTx_splitLine_81 : decode cTx_splitLine 81 = .ok (.iload_n 2, 1) := by decide +kernel
theorem dTx_splitLine_82 : decode cTx_splitLine 82 = .ok (.ifCond .ne 32, 3) := by decide +kernel
theorem dTx_splitLine_85 : decode cTx_splitLine 85 = .ok (.aload_n 0, 1) := by decide +kernel
theorem dTx_splitLine_86 : decode cTx_splitLine 86 = .ok (.getfield 35, 3) := by decide +kernel
theorem dTx_splitLine_89 : decode cTx_splitLine 89 = .ok (.bipush 10, 2) := by decide +kernel
theorem dTx_splitLine_91 : decode cTx_splitLine 91 = .ok (.if_icmp .ge 23, 3) := by decide +kernel
theorem dTx_splitLine_94 : decode cTx_splitLine 94 = .ok (.aload_n 0, 1) := by decide +kernel
theorem dTx_splitLine_95 : decode cTx_splitLine 95 = .ok (.getfield 15, 3) := by decide +kernel
theorem dTx_splitLine_98 : decode cTx_splitLine 98 = .ok (.aload_n 0, 1) := by decide +kernel
theorem dTx_splitLine_99 : decode cTx_splitLine 99 = .ok (.getfield 35, 3) := by decide +kernel
theorem dTx_splitLine_102 : decode cTx_splitLine 102 = .ok (.iload_n 3, 1) := by decide +kernel
theorem dTx_splitLine_103 : decode cTx_splitLine 103 = .ok (.iastore, 1) := by decide +kernel
theorem dTx_splitLine_104 : decode cTx_splitLine 104 = .ok (.aload_n 0, 1) := by decide +kernel
theorem dTx_splitLine_105 : decode cTx_splitLine 105 = .ok (.dup, 1) := by decide +kernel
theorem dTx_splitLine_106 : decode cTx_splitLine 106 = .ok (.getfield 35, 3) := by decide +kernel
theorem dTx_splitLine_109 : decode cTx_splitLine 109 = .ok (.iconst 1, 1) := by decide +kernel
theorem dTx_splitLine_110 : decode cTx_splitLine 110 = .ok (.iadd, 1) := by decide +kernel
theorem dTx_splitLine_111 : decode cTx_splitLine 111 = .ok (.putfield 35, 3) := by decide +kernel
theorem dTx_splitLine_114 : decode cTx_splitLine 114 = .ok (.iload 4, 2) := by decide +kernel
theorem dTx_splitLine_116 : decode cTx_splitLine 116 = .ok (.ifCond .eq 17, 3) := by decide +kernel
theorem dTx_splitLine_119 : decode cTx_splitLine 119 = .ok (.aload_n 0, 1) := by decide +kernel
theorem dTx_splitLine_120 : decode cTx_splitLine 120 = .ok (.getfield 19, 3) := by decide +kernel
theorem dTx_splitLine_123 : decode cTx_splitLine 123 = .ok (.aload_n 0, 1) := by decide +kernel
theorem dTx_splitLine_124 : decode cTx_splitLine 124 = .ok (.getfield 35, 3) := by decide +kernel
theorem dTx_splitLine_127 : decode cTx_splitLine 127 = .ok (.iconst 1, 1) := by decide +kernel
theorem dTx_splitLine_128 : decode cTx_splitLine 128 = .ok (.isub, 1) := by decide +kernel
theorem dTx_splitLine_129 : decode cTx_splitLine 129 = .ok (.iload_n 3, 1) := by decide +kernel
theorem dTx_splitLine_130 : decode cTx_splitLine 130 = .ok (.iconst 1, 1) := by decide +kernel
theorem dTx_splitLine_131 : decode cTx_splitLine 131 = .ok (.iadd, 1) := by decide +kernel
theorem dTx_splitLine_132 : decode cTx_splitLine 132 = .ok (.iastore, 1) := by decide +kernel
theorem dTx_splitLine_133 : decode cTx_splitLine 133 = .ok (.iload 4, 2) := by decide +kernel
theorem dTx_splitLine_135 : decode cTx_splitLine 135 = .ok (.istore_n 2, 1) := by decide +kernel
theorem dTx_splitLine_136 : decode cTx_splitLine 136 = .ok (.iinc 3 1, 3) := by decide +kernel
theorem dTx_splitLine_139 : decode cTx_splitLine 139 = .ok (.goto (-125), 3) := by decide +kernel
theorem dTx_splitLine_142 : decode cTx_splitLine 142 = .ok (.aload_n 0, 1) := by decide +kernel
theorem dTx_splitLine_143 : decode cTx_splitLine 143 = .ok (.iload_n 3, 1) := by decide +kernel
theorem dTx_splitLine_144 : decode cTx_splitLine 144 = .ok (.iconst 1, 1) := by decide +kernel
theorem dTx_splitLine_145 : decode cTx_splitLine 145 = .ok (.iadd, 1) := by decide +kernel
theorem dTx_splitLine_146 : decode cTx_splitLine 146 = .ok (.putfield 26, 3) := by decide +kernel
theorem dTx_splitLine_149 : decode cTx_splitLine 149 = .ok (.return_, 1) := by decide +kernel
theorem wv_215 : Cond.fieldLink "CellForge$Text" 35 "CellForge$Text" "words" "I" ∈ cfB := cf_in 215 (by decide +kernel) rfl
theorem wv_209 : Cond.fieldLink "CellForge$Text" 22 "CellForge$Text" "size" "I" ∈ cfB := cf_in 209 (by decide +kernel) rfl
def yTx_toNextLine : MethodName := ⟨"CellForge$Text", "toNextLine", "()Z"⟩
abbrev cTx_toNextLine : ByteArray := prog_12_method_5_code
theorem dTx_toNextLine_0 : decode cTx_toNextLine 0 = .ok (.iconst 0, 1) := by decide +kernel
theorem dTx_toNextLine_1 : decode cTx_toNextLine 1 = .ok (.istore_n 1, 1) := by decide +kernel
theorem dTx_toNextLine_2 : decode cTx_toNextLine 2 = .ok (.iload_n 1, 1) := by decide +kernel
theorem dTx_toNextLine_3 : decode cTx_toNextLine 3 = .ok (.sipush 1600, 3) := by decide +kernel
theorem dTx_toNextLine_6 : decode cTx_toNextLine 6 = .ok (.if_icmp .gt 43, 3) := by decide +kernel
theorem dTx_toNextLine_9 : decode cTx_toNextLine 9 = .ok (.aload_n 0, 1) := by decide +kernel
theorem dTx_toNextLine_10 : decode cTx_toNextLine 10 = .ok (.getfield 26, 3) := by decide +kernel
theorem dTx_toNextLine_13 : decode cTx_toNextLine 13 = .ok (.aload_n 0, 1) := by decide +kernel
theorem dTx_toNextLine_14 : decode cTx_toNextLine 14 = .ok (.getfield 22, 3) := by decide +kernel
theorem dTx_toNextLine_17 : decode cTx_toNextLine 17 = .ok (.if_icmp .gt 32, 3) := by decide +kernel
theorem dTx_toNextLine_20 : decode cTx_toNextLine 20 = .ok (.aload_n 0, 1) := by decide +kernel
theorem dTx_toNextLine_21 : decode cTx_toNextLine 21 = .ok (.dup, 1) := by decide +kernel
theorem dTx_toNextLine_22 : decode cTx_toNextLine 22 = .ok (.getfield 29, 3) := by decide +kernel
theorem dTx_toNextLine_25 : decode cTx_toNextLine 25 = .ok (.iconst 1, 1) := by decide +kernel
theorem dTx_toNextLine_26 : decode cTx_toNextLine 26 = .ok (.iadd, 1) := by decide +kernel
theorem dTx_toNextLine_27 : decode cTx_toNextLine 27 = .ok (.putfield 29, 3) := by decide +kernel
theorem dTx_toNextLine_30 : decode cTx_toNextLine 30 = .ok (.aload_n 0, 1) := by decide +kernel
theorem dTx_toNextLine_31 : decode cTx_toNextLine 31 = .ok (.invokevirtual 32, 3) := by decide +kernel
theorem dTx_toNextLine_34 : decode cTx_toNextLine 34 = .ok (.aload_n 0, 1) := by decide +kernel
theorem dTx_toNextLine_35 : decode cTx_toNextLine 35 = .ok (.getfield 35, 3) := by decide +kernel
theorem dTx_toNextLine_38 : decode cTx_toNextLine 38 = .ok (.ifCond .le 5, 3) := by decide +kernel
theorem dTx_toNextLine_41 : decode cTx_toNextLine 41 = .ok (.iconst 1, 1) := by decide +kernel
theorem dTx_toNextLine_42 : decode cTx_toNextLine 42 = .ok (.ireturn, 1) := by decide +kernel
theorem dTx_toNextLine_43 : decode cTx_toNextLine 43 = .ok (.iinc 1 1, 3) := by decide +kernel
theorem dTx_toNextLine_46 : decode cTx_toNextLine 46 = .ok (.goto (-44), 3) := by decide +kernel
theorem dTx_toNextLine_49 : decode cTx_toNextLine 49 = .ok (.aload_n 0, 1) := by decide +kernel
theorem dTx_toNextLine_50 : decode cTx_toNextLine 50 = .ok (.dup, 1) := by decide +kernel
theorem dTx_toNextLine_51 : decode cTx_toNextLine 51 = .ok (.getfield 29, 3) := by decide +kernel
theorem dTx_toNextLine_54 : decode cTx_toNextLine 54 = .ok (.iconst 1, 1) := by decide +kernel
theorem dTx_toNextLine_55 : decode cTx_toNextLine 55 = .ok (.iadd, 1) := by decide +kernel
theorem dTx_toNextLine_56 : decode cTx_toNextLine 56 = .ok (.putfield 29, 3) := by decide +kernel
theorem dTx_toNextLine_59 : decode cTx_toNextLine 59 = .ok (.iconst 0, 1) := by decide +kernel
theorem dTx_toNextLine_60 : decode cTx_toNextLine 60 = .ok (.ireturn, 1) := by decide +kernel
theorem wv_742 : Cond.code (⟨"CellForge$Text", "splitLine", "()V"⟩ : MethodName) prog_12_method_6_code 5 (Option.none : Option Jvm.ClassFile.FieldType) ∈ cfB := cf_in 742 (by decide +kernel) rfl
theorem wv_739 : Cond.methodLink "CellForge$Text" 32 (⟨"CellForge$Text", "splitLine", "()V"⟩ : MethodName) ∈ cfB := cf_in 739 (by decide +kernel) rfl
theorem wv_741 : Cond.instanceMethod (⟨"CellForge$Text", "splitLine", "()V"⟩ : MethodName) ∈ cfB := cf_in 741 (by decide +kernel) rfl
theorem wv_0 : Cond.selects "CellForge$Text" (⟨"CellForge$Text", "splitLine", "()V"⟩ : MethodName) (⟨"CellForge$Text", "splitLine", "()V"⟩ : MethodName) ∈ cfB := cf_in 0 (by decide +kernel) rfl
def yNl_scanLines : MethodName := ⟨"CellForge$Netlist", "scanLines", "(LCellForge$Text;)I"⟩
abbrev cNl_scanLines : ByteArray := prog_9_method_3_code
theorem dNl_scanLines_0 : decode cNl_scanLines 0 = .ok (.aload_n 0, 1) := by decide +kernel
theorem dNl_scanLines_1 : decode cNl_scanLines 1 = .ok (.iconst 0, 1) := by decide +kernel
theorem dNl_scanLines_2 : decode cNl_scanLines 2 = .ok (.putfield 69, 3) := by decide +kernel
theorem dNl_scanLines_5 : decode cNl_scanLines 5 = .ok (.aload_n 0, 1) := by decide +kernel
theorem dNl_scanLines_6 : decode cNl_scanLines 6 = .ok (.iconst 0, 1) := by decide +kernel
theorem dNl_scanLines_7 : decode cNl_scanLines 7 = .ok (.putfield 72, 3) := by decide +kernel
theorem dNl_scanLines_10 : decode cNl_scanLines 10 = .ok (.aload_n 0, 1) := by decide +kernel
theorem dNl_scanLines_11 : decode cNl_scanLines 11 = .ok (.iconst 0, 1) := by decide +kernel
theorem dNl_scanLines_12 : decode cNl_scanLines 12 = .ok (.putfield 75, 3) := by decide +kernel
theorem dNl_scanLines_15 : decode cNl_scanLines 15 = .ok (.iconst 0, 1) := by decide +kernel
theorem dNl_scanLines_16 : decode cNl_scanLines 16 = .ok (.istore_n 2, 1) := by decide +kernel
theorem dNl_scanLines_17 : decode cNl_scanLines 17 = .ok (.aload_n 1, 1) := by decide +kernel
theorem dNl_scanLines_18 : decode cNl_scanLines 18 = .ok (.invokevirtual 78, 3) := by decide +kernel
theorem dNl_scanLines_21 : decode cNl_scanLines 21 = .ok (.iconst 0, 1) := by decide +kernel
theorem dNl_scanLines_22 : decode cNl_scanLines 22 = .ok (.istore_n 3, 1) := by decide +kernel
theorem dNl_scanLines_23 : decode cNl_scanLines 23 = .ok (.iload_n 3, 1) := by decide +kernel
theorem dNl_scanLines_24 : decode cNl_scanLines 24 = .ok (.sipush 1600, 3) := by decide +kernel
theorem dNl_scanLines_27 : decode cNl_scanLines 27 = .ok (.if_icmp .gt 50, 3) := by decide +kernel
theorem dNl_scanLines_30 : decode cNl_scanLines 30 = .ok (.aload_n 1, 1) := by decide +kernel
theorem dNl_scanLines_31 : decode cNl_scanLines 31 = .ok (.invokevirtual 81, 3) := by decide +kernel
theorem dNl_scanLines_34 : decode cNl_scanLines 34 = .ok (.ifCond .eq 43, 3) := by decide +kernel
theorem dNl_scanLines_37 : decode cNl_scanLines 37 = .ok (.aload_n 0, 1) := by decide +kernel
theorem dNl_scanLines_38 : decode cNl_scanLines 38 = .ok (.aload_n 1, 1) := by decide +kernel
theorem dNl_scanLines_39 : decode cNl_scanLines 39 = .ok (.iload_n 2, 1) := by decide +kernel
theorem dNl_scanLines_40 : decode cNl_scanLines 40 = .ok (.invokevirtual 85, 3) := by decide +kernel
theorem dNl_scanLines_43 : decode cNl_scanLines 43 = .ok (.istore 4, 2) := by decide +kernel
theorem dNl_scanLines_45 : decode cNl_scanLines 45 = .ok (.iload 4, 2) := by decide +kernel
theorem dNl_scanLines_47 : decode cNl_scanLines 47 = .ok (.ifCond .eq 6, 3) := by decide +kernel
theorem dNl_scanLines_50 : decode cNl_scanLines 50 = .ok (.iload 4, 2) := by decide +kernel
theorem dNl_scanLines_52 : decode cNl_scanLines 52 = .ok (.ireturn, 1) := by decide +kernel
theorem dNl_scanLines_53 : decode cNl_scanLines 53 = .ok (.iload_n 2, 1) := by decide +kernel
theorem dNl_scanLines_54 : decode cNl_scanLines 54 = .ok (.iconst 2, 1) := by decide +kernel
theorem dNl_scanLines_55 : decode cNl_scanLines 55 = .ok (.if_icmp .ne 13, 3) := by decide +kernel
theorem dNl_scanLines_58 : decode cNl_scanLines 58 = .ok (.aload_n 1, 1) := by decide +kernel
theorem dNl_scanLines_59 : decode cNl_scanLines 59 = .ok (.iconst 0, 1) := by decide +kernel
theorem dNl_scanLines_60 : decode cNl_scanLines 60 = .ok (.ldc 89, 2) := by decide +kernel
theorem dNl_scanLines_62 : decode cNl_scanLines 62 = .ok (.invokevirtual 91, 3) := by decide +kernel
theorem dNl_scanLines_65 : decode cNl_scanLines 65 = .ok (.ifCond .eq 6, 3) := by decide +kernel
theorem dNl_scanLines_68 : decode cNl_scanLines 68 = .ok (.iinc 2 1, 3) := by decide +kernel
theorem dNl_scanLines_71 : decode cNl_scanLines 71 = .ok (.iinc 3 1, 3) := by decide +kernel
theorem dNl_scanLines_74 : decode cNl_scanLines 74 = .ok (.goto (-51), 3) := by decide +kernel
theorem dNl_scanLines_77 : decode cNl_scanLines 77 = .ok (.iload_n 2, 1) := by decide +kernel
theorem dNl_scanLines_78 : decode cNl_scanLines 78 = .ok (.iconst 3, 1) := by decide +kernel
theorem dNl_scanLines_79 : decode cNl_scanLines 79 = .ok (.if_icmp .ne 7, 3) := by decide +kernel
theorem dNl_scanLines_82 : decode cNl_scanLines 82 = .ok (.iconst 0, 1) := by decide +kernel
theorem dNl_scanLines_83 : decode cNl_scanLines 83 = .ok (.goto 4, 3) := by decide +kernel
theorem dNl_scanLines_86 : decode cNl_scanLines 86 = .ok (.iconst 1, 1) := by decide +kernel
theorem dNl_scanLines_87 : decode cNl_scanLines 87 = .ok (.ireturn, 1) := by decide +kernel
theorem wv_483 : Cond.fieldLink "CellForge$Netlist" 69 "CellForge$Netlist" "inputs" "I" ∈ cfB := cf_in 483 (by decide +kernel) rfl
theorem wv_485 : Cond.fieldLink "CellForge$Netlist" 72 "CellForge$Netlist" "outputs" "I" ∈ cfB := cf_in 485 (by decide +kernel) rfl
theorem wv_494 : Cond.fieldLink "CellForge$Netlist" 75 "CellForge$Netlist" "tables" "I" ∈ cfB := cf_in 494 (by decide +kernel) rfl
theorem wv_734 : Cond.code (⟨"CellForge$Text", "rewind", "()V"⟩ : MethodName) prog_12_method_4_code 1 (Option.none : Option Jvm.ClassFile.FieldType) ∈ cfB := cf_in 734 (by decide +kernel) rfl
theorem wv_973 : Cond.methodLink "CellForge$Netlist" 78 (⟨"CellForge$Text", "rewind", "()V"⟩ : MethodName) ∈ cfB := cf_in 973 (by decide +kernel) rfl
theorem wv_732 : Cond.instanceMethod (⟨"CellForge$Text", "rewind", "()V"⟩ : MethodName) ∈ cfB := cf_in 732 (by decide +kernel) rfl
theorem wv_733 : Cond.selects "CellForge$Text" (⟨"CellForge$Text", "rewind", "()V"⟩ : MethodName) (⟨"CellForge$Text", "rewind", "()V"⟩ : MethodName) ∈ cfB := cf_in 733 (by decide +kernel) rfl
theorem wv_738 : Cond.code (⟨"CellForge$Text", "toNextLine", "()Z"⟩ : MethodName) prog_12_method_5_code 2 (Option.some Jvm.ClassFile.FieldType.boolean) ∈ cfB := cf_in 738 (by decide +kernel) rfl
theorem wv_974 : Cond.methodLink "CellForge$Netlist" 81 (⟨"CellForge$Text", "toNextLine", "()Z"⟩ : MethodName) ∈ cfB := cf_in 974 (by decide +kernel) rfl
theorem wv_736 : Cond.instanceMethod (⟨"CellForge$Text", "toNextLine", "()Z"⟩ : MethodName) ∈ cfB := cf_in 736 (by decide +kernel) rfl
theorem wv_737 : Cond.selects "CellForge$Text" (⟨"CellForge$Text", "toNextLine", "()Z"⟩ : MethodName) (⟨"CellForge$Text", "toNextLine", "()Z"⟩ : MethodName) ∈ cfB := cf_in 737 (by decide +kernel) rfl
def yNl_scan : MethodName := ⟨"CellForge$Netlist", "scan", "(LCellForge$Text;)I"⟩
abbrev cNl_scan : ByteArray := prog_9_method_2_code
theorem dNl_scan_0 : decode cNl_scan 0 = .ok (.aload_n 0, 1) := by decide +kernel
theorem dNl_scan_1 : decode cNl_scan 1 = .ok (.aload_n 1, 1) := by decide +kernel
theorem dNl_scan_2 : decode cNl_scan 2 = .ok (.invokevirtual 49, 3) := by decide +kernel
theorem dNl_scan_5 : decode cNl_scan 5 = .ok (.istore_n 2, 1) := by decide +kernel
theorem dNl_scan_6 : decode cNl_scan 6 = .ok (.iload_n 2, 1) := by decide +kernel
theorem dNl_scan_7 : decode cNl_scan 7 = .ok (.ifCond .eq 13, 3) := by decide +kernel
theorem dNl_scan_10 : decode cNl_scan 10 = .ok (.aload_n 0, 1) := by decide +kernel
theorem dNl_scan_11 : decode cNl_scan 11 = .ok (.aload_n 1, 1) := by decide +kernel
theorem dNl_scan_12 : decode cNl_scan 12 = .ok (.getfield 53, 3) := by decide +kernel
theorem dNl_scan_15 : decode cNl_scan 15 = .ok (.putfield 59, 3) := by decide +kernel
theorem dNl_scan_18 : decode cNl_scan 18 = .ok (.iload_n 2, 1) := by decide +kernel
theorem dNl_scan_19 : decode cNl_scan 19 = .ok (.ireturn, 1) := by decide +kernel
theorem dNl_scan_20 : decode cNl_scan 20 = .ok (.aload_n 0, 1) := by decide +kernel
theorem dNl_scan_21 : decode cNl_scan 21 = .ok (.aload_n 0, 1) := by decide +kernel
theorem dNl_scan_22 : decode cNl_scan 22 = .ok (.invokevirtual 62, 3) := by decide +kernel
theorem dNl_scan_25 : decode cNl_scan 25 = .ok (.putfield 59, 3) := by decide +kernel
theorem dNl_scan_28 : decode cNl_scan 28 = .ok (.aload_n 0, 1) := by decide +kernel
theorem dNl_scan_29 : decode cNl_scan 29 = .ok (.getfield 59, 3) := by decide +kernel
theorem dNl_scan_32 : decode cNl_scan 32 = .ok (.iconst (-1), 1) := by decide +kernel
theorem dNl_scan_33 : decode cNl_scan 33 = .ok (.if_icmp .eq 5, 3) := by decide +kernel
theorem dNl_scan_36 : decode cNl_scan 36 = .ok (.iconst 3, 1) := by decide +kernel
theorem dNl_scan_37 : decode cNl_scan 37 = .ok (.ireturn, 1) := by decide +kernel
theorem dNl_scan_38 : decode cNl_scan 38 = .ok (.aload_n 0, 1) := by decide +kernel
theorem dNl_scan_39 : decode cNl_scan 39 = .ok (.aload_n 0, 1) := by decide +kernel
theorem dNl_scan_40 : decode cNl_scan 40 = .ok (.invokevirtual 66, 3) := by decide +kernel
theorem dNl_scan_43 : decode cNl_scan 43 = .ok (.putfield 59, 3) := by decide +kernel
theorem dNl_scan_46 : decode cNl_scan 46 = .ok (.aload_n 0, 1) := by decide +kernel
theorem dNl_scan_47 : decode cNl_scan 47 = .ok (.getfield 59, 3) := by decide +kernel
theorem dNl_scan_50 : decode cNl_scan 50 = .ok (.iconst (-1), 1) := by decide +kernel
theorem dNl_scan_51 : decode cNl_scan 51 = .ok (.if_icmp .ne 7, 3) := by decide +kernel
theorem dNl_scan_54 : decode cNl_scan 54 = .ok (.iconst 0, 1) := by decide +kernel
theorem dNl_scan_55 : decode cNl_scan 55 = .ok (.goto 4, 3) := by decide +kernel
theorem dNl_scan_58 : decode cNl_scan 58 = .ok (.iconst 4, 1) := by decide +kernel
theorem dNl_scan_59 : decode cNl_scan 59 = .ok (.ireturn, 1) := by decide +kernel
theorem wv_972 : Cond.code (⟨"CellForge$Netlist", "scanLines", "(LCellForge$Text;)I"⟩ : MethodName) prog_9_method_3_code 5 (Option.some Jvm.ClassFile.FieldType.int) ∈ cfB := cf_in 972 (by decide +kernel) rfl
theorem wv_969 : Cond.methodLink "CellForge$Netlist" 49 (⟨"CellForge$Netlist", "scanLines", "(LCellForge$Text;)I"⟩ : MethodName) ∈ cfB := cf_in 969 (by decide +kernel) rfl
theorem wv_971 : Cond.instanceMethod (⟨"CellForge$Netlist", "scanLines", "(LCellForge$Text;)I"⟩ : MethodName) ∈ cfB := cf_in 971 (by decide +kernel) rfl
theorem wv_8 : Cond.selects "CellForge$Netlist" (⟨"CellForge$Netlist", "scanLines", "(LCellForge$Text;)I"⟩ : MethodName) (⟨"CellForge$Netlist", "scanLines", "(LCellForge$Text;)I"⟩ : MethodName) ∈ cfB := cf_in 8 (by decide +kernel) rfl
theorem wv_210 : Cond.fieldLink "CellForge$Netlist" 53 "CellForge$Text" "number" "I" ∈ cfB := cf_in 210 (by decide +kernel) rfl
theorem wv_487 : Cond.fieldLink "CellForge$Netlist" 59 "CellForge$Netlist" "faultLine" "I" ∈ cfB := cf_in 487 (by decide +kernel) rfl
def yF_read : MethodName := ⟨"CellForge", "read", "()I"⟩
abbrev cF_read : ByteArray := prog_1_method_4_code
theorem dF_read_0 : decode cF_read 0 = .ok (.aload_n 0, 1) := by decide +kernel
theorem dF_read_1 : decode cF_read 1 = .ok (.getfield 75, 3) := by decide +kernel
theorem dF_read_4 : decode cF_read 4 = .ok (.aload_n 0, 1) := by decide +kernel
theorem dF_read_5 : decode cF_read 5 = .ok (.getfield 12, 3) := by decide +kernel
theorem dF_read_8 : decode cF_read 8 = .ok (.invokevirtual 119, 3) := by decide +kernel
theorem dF_read_11 : decode cF_read 11 = .ok (.istore_n 1, 1) := by decide +kernel
theorem dF_read_12 : decode cF_read 12 = .ok (.aload_n 0, 1) := by decide +kernel
theorem dF_read_13 : decode cF_read 13 = .ok (.getfield 75, 3) := by decide +kernel
theorem dF_read_16 : decode cF_read 16 = .ok (.getfield 123, 3) := by decide +kernel
theorem dF_read_19 : decode cF_read 19 = .ok (.istore_n 2, 1) := by decide +kernel
theorem dF_read_20 : decode cF_read 20 = .ok (.iload_n 1, 1) := by decide +kernel
theorem dF_read_21 : decode cF_read 21 = .ok (.ifCond .ne 59, 3) := by decide +kernel
theorem dF_read_24 : decode cF_read 24 = .ok (.aload_n 0, 1) := by decide +kernel
theorem dF_read_25 : decode cF_read 25 = .ok (.getfield 75, 3) := by decide +kernel
theorem dF_read_28 : decode cF_read 28 = .ok (.aload_n 0, 1) := by decide +kernel
theorem dF_read_29 : decode cF_read 29 = .ok (.getfield 85, 3) := by decide +kernel
theorem dF_read_32 : decode cF_read 32 = .ok (.invokevirtual 124, 3) := by decide +kernel
theorem dF_read_35 : decode cF_read 35 = .ok (.aload_n 0, 1) := by decide +kernel
theorem dF_read_36 : decode cF_read 36 = .ok (.getfield 85, 3) := by decide +kernel
theorem dF_read_39 : decode cF_read 39 = .ok (.getfield 128, 3) := by decide +kernel
theorem dF_read_42 : decode cF_read 42 = .ok (.ifCond .ne 7, 3) := by decide +kernel
theorem dF_read_45 : decode cF_read 45 = .ok (.iconst 1, 1) := by decide +kernel
theorem dF_read_46 : decode cF_read 46 = .ok (.goto 4, 3) := by decide +kernel
theorem dF_read_49 : decode cF_read 49 = .ok (.iconst 0, 1) := by decide +kernel
theorem dF_read_50 : decode cF_read 50 = .ok (.invokestatic 132, 3) := by decide +kernel
theorem dF_read_53 : decode cF_read 53 = .ok (.aload_n 0, 1) := by decide +kernel
theorem dF_read_54 : decode cF_read 54 = .ok (.getfield 71, 3) := by decide +kernel
theorem dF_read_57 : decode cF_read 57 = .ok (.astore_n 3, 1) := by decide +kernel
theorem dF_read_58 : decode cF_read 58 = .ok (.aload_n 0, 1) := by decide +kernel
theorem dF_read_59 : decode cF_read 59 = .ok (.aload_n 0, 1) := by decide +kernel
theorem dF_read_60 : decode cF_read 60 = .ok (.getfield 75, 3) := by decide +kernel
theorem dF_read_63 : decode cF_read 63 = .ok (.putfield 71, 3) := by decide +kernel
theorem dF_read_66 : decode cF_read 66 = .ok (.aload_n 0, 1) := by decide +kernel
theorem dF_read_67 : decode cF_read 67 = .ok (.aload_n 3, 1) := by decide +kernel
theorem dF_read_68 : decode cF_read 68 = .ok (.putfield 75, 3) := by decide +kernel
theorem dF_read_71 : decode cF_read 71 = .ok (.aload_n 0, 1) := by decide +kernel
theorem dF_read_72 : decode cF_read 72 = .ok (.invokevirtual 136, 3) := by decide +kernel
theorem dF_read_75 : decode cF_read 75 = .ok (.aload_n 0, 1) := by decide +kernel
theorem dF_read_76 : decode cF_read 76 = .ok (.iconst 1, 1) := by decide +kernel
theorem dF_read_77 : decode cF_read 77 = .ok (.putfield 139, 3) := by decide +kernel
theorem dF_read_80 : decode cF_read 80 = .ok (.aload_n 0, 1) := by decide +kernel
theorem dF_read_81 : decode cF_read 81 = .ok (.iload_n 2, 1) := by decide +kernel
theorem dF_read_82 : decode cF_read 82 = .ok (.putfield 98, 3) := by decide +kernel
theorem dF_read_85 : decode cF_read 85 = .ok (.iload_n 1, 1) := by decide +kernel
theorem dF_read_86 : decode cF_read 86 = .ok (.ireturn, 1) := by decide +kernel
theorem wv_968 : Cond.code (⟨"CellForge$Netlist", "scan", "(LCellForge$Text;)I"⟩ : MethodName) prog_9_method_2_code 3 (Option.some Jvm.ClassFile.FieldType.int) ∈ cfB := cf_in 968 (by decide +kernel) rfl
theorem wv_965 : Cond.methodLink "CellForge" 119 (⟨"CellForge$Netlist", "scan", "(LCellForge$Text;)I"⟩ : MethodName) ∈ cfB := cf_in 965 (by decide +kernel) rfl
theorem wv_966 : Cond.instanceMethod (⟨"CellForge$Netlist", "scan", "(LCellForge$Text;)I"⟩ : MethodName) ∈ cfB := cf_in 966 (by decide +kernel) rfl
theorem wv_967 : Cond.selects "CellForge$Netlist" (⟨"CellForge$Netlist", "scan", "(LCellForge$Text;)I"⟩ : MethodName) (⟨"CellForge$Netlist", "scan", "(LCellForge$Text;)I"⟩ : MethodName) ∈ cfB := cf_in 967 (by decide +kernel) rfl
theorem wv_488 : Cond.fieldLink "CellForge" 123 "CellForge$Netlist" "faultLine" "I" ∈ cfB := cf_in 488 (by decide +kernel) rfl
def yLi_scan : MethodName := ⟨"CellForge$Library", "scan", "(LCellForge$Text;)I"⟩
abbrev cLi_scan : ByteArray := prog_7_method_2_code
theorem dLi_scan_0 : decode cLi_scan 0 = .ok (.aload_n 0, 1) := by decide +kernel
theorem dLi_scan_1 : decode cLi_scan 1 = .ok (.iconst 0, 1) := by decide +kernel
theorem dLi_scan_2 : decode cLi_scan 2 = .ok (.putfield 40, 3) := by decide +kernel
theorem dLi_scan_5 : decode cLi_scan 5 = .ok (.iconst 0, 1) := by decide +kernel
theorem dLi_scan_6 : decode cLi_scan 6 = .ok (.istore_n 2, 1) := by decide +kernel
theorem dLi_scan_7 : decode cLi_scan 7 = .ok (.aload_n 1, 1) := by decide +kernel
theorem dLi_scan_8 : decode cLi_scan 8 = .ok (.invokevirtual 44, 3) := by decide +kernel
theorem dLi_scan_11 : decode cLi_scan 11 = .ok (.iconst 0, 1) := by decide +kernel
theorem dLi_scan_12 : decode cLi_scan 12 = .ok (.istore_n 3, 1) := by decide +kernel
theorem dLi_scan_13 : decode cLi_scan 13 = .ok (.iload_n 3, 1) := by decide +kernel
theorem dLi_scan_14 : decode cLi_scan 14 = .ok (.sipush 1600, 3) := by decide +kernel
theorem dLi_scan_17 : decode cLi_scan 17 = .ok (.if_icmp .gt 47, 3) := by decide +kernel
theorem dLi_scan_20 : decode cLi_scan 20 = .ok (.aload_n 1, 1) := by decide +kernel
theorem dLi_scan_21 : decode cLi_scan 21 = .ok (.invokevirtual 49, 3) := by decide +kernel
theorem dLi_scan_24 : decode cLi_scan 24 = .ok (.ifCond .eq 40, 3) := by decide +kernel
theorem dLi_scan_27 : decode cLi_scan 27 = .ok (.iload_n 2, 1) := by decide +kernel
theorem dLi_scan_28 : decode cLi_scan 28 = .ok (.ifCond .eq 7, 3) := by decide +kernel
theorem dLi_scan_31 : decode cLi_scan 31 = .ok (.iconst 1, 1) := by decide +kernel
theorem dLi_scan_32 : decode cLi_scan 32 = .ok (.goto 8, 3) := by decide +kernel
theorem dLi_scan_35 : decode cLi_scan 35 = .ok (.aload_n 0, 1) := by decide +kernel
theorem dLi_scan_36 : decode cLi_scan 36 = .ok (.aload_n 1, 1) := by decide +kernel
theorem dLi_scan_37 : decode cLi_scan 37 = .ok (.invokevirtual 53, 3) := by decide +kernel
theorem dLi_scan_40 : decode cLi_scan 40 = .ok (.istore 4, 2) := by decide +kernel
theorem dLi_scan_42 : decode cLi_scan 42 = .ok (.iload 4, 2) := by decide +kernel
theorem dLi_scan_44 : decode cLi_scan 44 = .ok (.ifCond .eq 6, 3) := by decide +kernel
theorem dLi_scan_47 : decode cLi_scan 47 = .ok (.iload 4, 2) := by decide +kernel
theorem dLi_scan_49 : decode cLi_scan 49 = .ok (.ireturn, 1) := by decide +kernel
theorem dLi_scan_50 : decode cLi_scan 50 = .ok (.aload_n 1, 1) := by decide +kernel
theorem dLi_scan_51 : decode cLi_scan 51 = .ok (.iconst 0, 1) := by decide +kernel
theorem dLi_scan_52 : decode cLi_scan 52 = .ok (.ldc 57, 2) := by decide +kernel
theorem dLi_scan_54 : decode cLi_scan 54 = .ok (.invokevirtual 59, 3) := by decide +kernel
theorem dLi_scan_57 : decode cLi_scan 57 = .ok (.istore_n 2, 1) := by decide +kernel
theorem dLi_scan_58 : decode cLi_scan 58 = .ok (.iinc 3 1, 3) := by decide +kernel
theorem dLi_scan_61 : decode cLi_scan 61 = .ok (.goto (-48), 3) := by decide +kernel
theorem dLi_scan_64 : decode cLi_scan 64 = .ok (.iload_n 2, 1) := by decide +kernel
theorem dLi_scan_65 : decode cLi_scan 65 = .ok (.ifCond .ne 5, 3) := by decide +kernel
theorem dLi_scan_68 : decode cLi_scan 68 = .ok (.iconst 1, 1) := by decide +kernel
theorem dLi_scan_69 : decode cLi_scan 69 = .ok (.ireturn, 1) := by decide +kernel
theorem dLi_scan_70 : decode cLi_scan 70 = .ok (.aload_n 0, 1) := by decide +kernel
theorem dLi_scan_71 : decode cLi_scan 71 = .ok (.invokevirtual 63, 3) := by decide +kernel
theorem dLi_scan_74 : decode cLi_scan 74 = .ok (.aload_n 0, 1) := by decide +kernel
theorem dLi_scan_75 : decode cLi_scan 75 = .ok (.invokevirtual 66, 3) := by decide +kernel
theorem dLi_scan_78 : decode cLi_scan 78 = .ok (.iconst 0, 1) := by decide +kernel
theorem dLi_scan_79 : decode cLi_scan 79 = .ok (.ireturn, 1) := by decide +kernel
theorem wv_610 : Cond.fieldLink "CellForge$Library" 40 "CellForge$Library" "cells" "I" ∈ cfB := cf_in 610 (by decide +kernel) rfl
theorem wv_731 : Cond.methodLink "CellForge$Library" 44 (⟨"CellForge$Text", "rewind", "()V"⟩ : MethodName) ∈ cfB := cf_in 731 (by decide +kernel) rfl
theorem wv_735 : Cond.methodLink "CellForge$Library" 49 (⟨"CellForge$Text", "toNextLine", "()Z"⟩ : MethodName) ∈ cfB := cf_in 735 (by decide +kernel) rfl
def yF_library : MethodName := ⟨"CellForge", "library", "()I"⟩
abbrev cF_library : ByteArray := prog_1_method_20_code
theorem dF_library_0 : decode cF_library 0 = .ok (.aload_n 0, 1) := by decide +kernel
theorem dF_library_1 : decode cF_library 1 = .ok (.getfield 95, 3) := by decide +kernel
theorem dF_library_4 : decode cF_library 4 = .ok (.aload_n 0, 1) := by decide +kernel
theorem dF_library_5 : decode cF_library 5 = .ok (.getfield 12, 3) := by decide +kernel
theorem dF_library_8 : decode cF_library 8 = .ok (.invokevirtual 253, 3) := by decide +kernel
theorem dF_library_11 : decode cF_library 11 = .ok (.istore_n 1, 1) := by decide +kernel
theorem dF_library_12 : decode cF_library 12 = .ok (.iload_n 1, 1) := by decide +kernel
theorem dF_library_13 : decode cF_library 13 = .ok (.ifCond .ne 34, 3) := by decide +kernel
theorem dF_library_16 : decode cF_library 16 = .ok (.aload_n 0, 1) := by decide +kernel
theorem dF_library_17 : decode cF_library 17 = .ok (.getfield 91, 3) := by decide +kernel
theorem dF_library_20 : decode cF_library 20 = .ok (.astore_n 2, 1) := by decide +kernel
theorem dF_library_21 : decode cF_library 21 = .ok (.aload_n 0, 1) := by decide +kernel
theorem dF_library_22 : decode cF_library 22 = .ok (.aload_n 0, 1) := by decide +kernel
theorem dF_library_23 : decode cF_library 23 = .ok (.getfield 95, 3) := by decide +kernel
theorem dF_library_26 : decode cF_library 26 = .ok (.putfield 91, 3) := by decide +kernel
theorem dF_library_29 : decode cF_library 29 = .ok (.aload_n 0, 1) := by decide +kernel
theorem dF_library_30 : decode cF_library 30 = .ok (.aload_n 2, 1) := by decide +kernel
theorem dF_library_31 : decode cF_library 31 = .ok (.putfield 95, 3) := by decide +kernel
theorem dF_library_34 : decode cF_library 34 = .ok (.aload_n 0, 1) := by decide +kernel
theorem dF_library_35 : decode cF_library 35 = .ok (.iconst 0, 1) := by decide +kernel
theorem dF_library_36 : decode cF_library 36 = .ok (.putfield 254, 3) := by decide +kernel
theorem dF_library_39 : decode cF_library 39 = .ok (.aload_n 0, 1) := by decide +kernel
theorem dF_library_40 : decode cF_library 40 = .ok (.iconst (-1), 1) := by decide +kernel
theorem dF_library_41 : decode cF_library 41 = .ok (.putfield 98, 3) := by decide +kernel
theorem dF_library_44 : decode cF_library 44 = .ok (.goto 14, 3) := by decide +kernel
theorem dF_library_47 : decode cF_library 47 = .ok (.aload_n 0, 1) := by decide +kernel
theorem dF_library_48 : decode cF_library 48 = .ok (.aload_n 0, 1) := by decide +kernel
theorem dF_library_49 : decode cF_library 49 = .ok (.getfield 12, 3) := by decide +kernel
theorem dF_library_52 : decode cF_library 52 = .ok (.getfield 257, 3) := by decide +kernel
theorem dF_library_55 : decode cF_library 55 = .ok (.putfield 98, 3) := by decide +kernel
theorem dF_library_58 : decode cF_library 58 = .ok (.iload_n 1, 1) := by decide +kernel
theorem dF_library_59 : decode cF_library 59 = .ok (.ireturn, 1) := by decide +kernel
theorem wv_730 : Cond.code (⟨"CellForge$Library", "scan", "(LCellForge$Text;)I"⟩ : MethodName) prog_7_method_2_code 5 (Option.some Jvm.ClassFile.FieldType.int) ∈ cfB := cf_in 730 (by decide +kernel) rfl
theorem wv_727 : Cond.methodLink "CellForge" 253 (⟨"CellForge$Library", "scan", "(LCellForge$Text;)I"⟩ : MethodName) ∈ cfB := cf_in 727 (by decide +kernel) rfl
theorem wv_728 : Cond.instanceMethod (⟨"CellForge$Library", "scan", "(LCellForge$Text;)I"⟩ : MethodName) ∈ cfB := cf_in 728 (by decide +kernel) rfl
theorem wv_729 : Cond.selects "CellForge$Library" (⟨"CellForge$Library", "scan", "(LCellForge$Text;)I"⟩ : MethodName) (⟨"CellForge$Library", "scan", "(LCellForge$Text;)I"⟩ : MethodName) ∈ cfB := cf_in 729 (by decide +kernel) rfl
theorem wv_212 : Cond.fieldLink "CellForge" 257 "CellForge$Text" "number" "I" ∈ cfB := cf_in 212 (by decide +kernel) rfl
def yM_takeLine : MethodName := ⟨"CellForgeModel", "takeLine", "(I)I"⟩
abbrev cM_takeLine : ByteArray := prog_14_method_7_code
theorem dM_takeLine_0 : decode cM_takeLine 0 = .ok (.iload_n 1, 1) := by decide +kernel
theorem dM_takeLine_1 : decode cM_takeLine 1 = .ok (.istore_n 2, 1) := by decide +kernel
theorem dM_takeLine_2 : decode cM_takeLine 2 = .ok (.iload_n 2, 1) := by decide +kernel
theorem dM_takeLine_3 : decode cM_takeLine 3 = .ok (.aload_n 0, 1) := by decide +kernel
theorem dM_takeLine_4 : decode cM_takeLine 4 = .ok (.getfield 232, 3) := by decide +kernel
theorem dM_takeLine_7 : decode cM_takeLine 7 = .ok (.if_icmp .ge 20, 3) := by decide +kernel
theorem dM_takeLine_10 : decode cM_takeLine 10 = .ok (.aload_n 0, 1) := by decide +kernel
theorem dM_takeLine_11 : decode cM_takeLine 11 = .ok (.getfield 7, 3) := by decide +kernel
theorem dM_takeLine_14 : decode cM_takeLine 14 = .ok (.iload_n 2, 1) := by decide +kernel
theorem dM_takeLine_15 : decode cM_takeLine 15 = .ok (.iaload, 1) := by decide +kernel
theorem dM_takeLine_16 : decode cM_takeLine 16 = .ok (.bipush 10, 2) := by decide +kernel
theorem dM_takeLine_18 : decode cM_takeLine 18 = .ok (.if_icmp .eq 9, 3) := by decide +kernel
theorem dM_takeLine_21 : decode cM_takeLine 21 = .ok (.iinc 2 1, 3) := by decide +kernel
theorem dM_takeLine_24 : decode cM_takeLine 24 = .ok (.goto (-22), 3) := by decide +kernel
theorem dM_takeLine_27 : decode cM_takeLine 27 = .ok (.iload_n 1, 1) := by decide +kernel
theorem dM_takeLine_28 : decode cM_takeLine 28 = .ok (.istore_n 3, 1) := by decide +kernel
theorem dM_takeLine_29 : decode cM_takeLine 29 = .ok (.iload_n 3, 1) := by decide +kernel
theorem dM_takeLine_30 : decode cM_takeLine 30 = .ok (.iload_n 2, 1) := by decide +kernel
theorem dM_takeLine_31 : decode cM_takeLine 31 = .ok (.if_icmp .ge 20, 3) := by decide +kernel
theorem dM_takeLine_34 : decode cM_takeLine 34 = .ok (.aload_n 0, 1) := by decide +kernel
theorem dM_takeLine_35 : decode cM_takeLine 35 = .ok (.getfield 7, 3) := by decide +kernel
theorem dM_takeLine_38 : decode cM_takeLine 38 = .ok (.iload_n 3, 1) := by decide +kernel
theorem dM_takeLine_39 : decode cM_takeLine 39 = .ok (.iaload, 1) := by decide +kernel
theorem dM_takeLine_40 : decode cM_takeLine 40 = .ok (.bipush 35, 2) := by decide +kernel
theorem dM_takeLine_42 : decode cM_takeLine 42 = .ok (.if_icmp .eq 9, 3) := by decide +kernel
theorem dM_takeLine_45 : decode cM_takeLine 45 = .ok (.iinc 3 1, 3) := by decide +kernel
theorem dM_takeLine_48 : decode cM_takeLine 48 = .ok (.goto (-19), 3) := by decide +kernel
theorem dM_takeLine_51 : decode cM_takeLine 51 = .ok (.aload_n 0, 1) := by decide +kernel
theorem dM_takeLine_52 : decode cM_takeLine 52 = .ok (.iconst 0, 1) := by decide +kernel
theorem dM_takeLine_53 : decode cM_takeLine 53 = .ok (.putfield 239, 3) := by decide +kernel
theorem dM_takeLine_56 : decode cM_takeLine 56 = .ok (.iload_n 1, 1) := by decide +kernel
theorem dM_takeLine_57 : decode cM_takeLine 57 = .ok (.istore 4, 2) := by decide +kernel
theorem dM_takeLine_59 : decode cM_takeLine 59 = .ok (.iload 4, 2) := by decide +kernel
theorem dM_takeLine_61 : decode cM_takeLine 61 = .ok (.iload_n 3, 1) := by decide +kernel
theorem dM_takeLine_62 : decode cM_takeLine 62 = .ok (.if_icmp .ge 92, 3) := by decide +kernel
theorem dM_takeLine_65 : decode cM_takeLine 65 = .ok (.iload 4, 2) := by decide +kernel
theorem dM_takeLine_67 : decode cM_takeLine 67 = .ok (.iload_n 3, 1) := by decide +kernel
theorem dM_takeLine_68 : decode cM_takeLine 68 = .ok (.if_icmp .ge 21, 3) := by decide +kernel
theorem dM_takeLine_71 : decode cM_takeLine 71 = .ok (.aload_n 0, 1) := by decide +kernel
theorem dM_takeLine_72 : decode cM_takeLine 72 = .ok (.getfield 7, 3) := by decide +kernel
theorem dM_takeLine_75 : decode cM_takeLine 75 = .ok (.iload 4, 2) := by decide +kernel
theorem dM_takeLine_77 : decode cM_takeLine 77 = .ok (.iaload, 1) := by decide +kernel
theorem dM_takeLine_78 : decode cM_takeLine 78 = .ok (.bipush 32, 2) := by decide +kernel
theorem dM_takeLine_80 : decode cM_takeLine 80 = .ok (.if_icmp .ne 9, 3) := by decide +kernel
theorem dM_takeLine_83 : decode cM_takeLine 83 = .ok (.iinc 4 1, 3) := by decide +kernel
theorem dM_takeLine_86 : decode cM_takeLine 86 = .ok (.goto (-21), 3) := by decide +kernel
theorem dM_takeLine_89 : decode cM_takeLine 89 = .ok (.iload 4, 2) := by decide +kernel
theorem dM_takeLine_91 : decode cM_takeLine 91 = .ok (.iload_n 3, 1) := by decide +kernel
theorem dM_takeLine_92 : decode cM_takeLine 92 = .ok (.if_icmp .ge (-33), 3) := by decide +kernel
theorem dM_takeLine_95 : decode cM_takeLine 95 = .ok (.aload_n 0, 1) := by decide +kernel
theorem dM_takeLine_96 : decode cM_takeLine 96 = .ok (.getfield 21, 3) := by decide +kernel
theorem dM_takeLine_99 : decode cM_takeLine 99 = .ok (.aload_n 0, 1) := by decide +kernel
theorem dM_takeLine_100 : decode cM_takeLine 100 = .ok (.getfield 239, 3) := by decide +kernel
theorem dM_takeLine_103 : decode cM_takeLine 103 = .ok (.iload 4, 2) := by decide +kernel
theorem dM_takeLine_105 : decode cM_takeLine 105 = .ok (.iastore, 1) := by decide +kernel
theorem dM_takeLine_106 : decode cM_takeLine 106 = .ok (.iload 4, 2) := by decide +kernel
theorem dM_takeLine_108 : decode cM_takeLine 108 = .ok (.iload_n 3, 1) := by decide +kernel
theorem dM_takeLine_109 : decode cM_takeLine 109 = .ok (.if_icmp .ge 21, 3) := by decide +kernel
theorem dM_takeLine_112 : decode cM_takeLine 112 = .ok (.aload_n 0, 1) := by decide +kernel
theorem dM_takeLine_113 : decode cM_takeLine 113 = .ok (.getfield 7, 3) := by decide +kernel
theorem dM_takeLine_116 : decode cM_takeLine 116 = .ok (.iload 4, 2) := by decide +kernel
theorem dM_takeLine_118 : decode cM_takeLine 118 = .ok (.iaload, 1) := by decide +kernel
theorem dM_takeLine_119 : decode cM_takeLine 119 = .ok (.bipush 32, 2) := by decide +kernel
theorem dM_takeLine_121 : decode cM_takeLine 121 = .ok (.if_icmp .eq 9, 3) := by decide +kernel
theorem dM_takeLine_124 : decode cM_takeLine 124 = .ok (.iinc 4 1, 3) := by decide +kernel
theorem dM_takeLine_127 : decode cM_takeLine 127 = .ok (.goto (-21), 3) := by decide +kernel
theorem dM_takeLine_130 : decode cM_takeLine 130 = .ok (.aload_n 0, 1) := by decide +kernel
theorem dM_takeLine_131 : decode cM_takeLine 131 = .ok (.getfield 24, 3) := by decide +kernel
theorem dM_takeLine_134 : decode cM_takeLine 134 = .ok (.aload_n 0, 1) := by decide +kernel
theorem dM_takeLine_135 : decode cM_takeLine 135 = .ok (.getfield 239, 3) := by decide +kernel
theorem dM_takeLine_138 : decode cM_takeLine 138 = .ok (.iload 4, 2) := by decide +kernel
theorem dM_takeLine_140 : decode cM_takeLine 140 = .ok (.iastore, 1) := by decide +kernel
theorem dM_takeLine_141 : decode cM_takeLine 141 = .ok (.aload_n 0, 1) := by decide +kernel
theorem dM_takeLine_142 : decode cM_takeLine 142 = .ok (.dup, 1) := by decide +kernel
theorem dM_takeLine_143 : decode cM_takeLine 143 = .ok (.getfield 239, 3) := by decide +kernel
theorem dM_takeLine_146 : decode cM_takeLine 146 = .ok (.iconst 1, 1) := by decide +kernel
theorem dM_takeLine_147 : decode cM_takeLine 147 = .ok (.iadd, 1) := by decide +kernel
theorem dM_takeLine_148 : decode cM_takeLine 148 = .ok (.putfield 239, 3) := by decide +kernel
theorem dM_takeLine_151 : decode cM_takeLine 151 = .ok (.goto (-92), 3) := by decide +kernel
theorem dM_takeLine_154 : decode cM_takeLine 154 = .ok (.iload_n 2, 1) := by decide +kernel
theorem dM_takeLine_155 : decode cM_takeLine 155 = .ok (.ireturn, 1) := by decide +kernel
theorem wv_1989 : Cond.fieldLink "CellForgeModel" 239 "CellForgeModel" "wordCount" "I" ∈ cfB := cf_in 1989 (by decide +kernel) rfl
def yM_fail : MethodName := ⟨"CellForgeModel", "fail", "(II)V"⟩
abbrev cM_fail : ByteArray := prog_14_method_8_code
theorem dM_fail_0 : decode cM_fail 0 = .ok (.aload_n 0, 1) := by decide +kernel
theorem dM_fail_1 : decode cM_fail 1 = .ok (.getfield 242, 3) := by decide +kernel
theorem dM_fail_4 : decode cM_fail 4 = .ok (.ifCond .ne 13, 3) := by decide +kernel
theorem dM_fail_7 : decode cM_fail 7 = .ok (.aload_n 0, 1) := by decide +kernel
theorem dM_fail_8 : decode cM_fail 8 = .ok (.iload_n 1, 1) := by decide +kernel
theorem dM_fail_9 : decode cM_fail 9 = .ok (.putfield 242, 3) := by decide +kernel
theorem dM_fail_12 : decode cM_fail 12 = .ok (.aload_n 0, 1) := by decide +kernel
theorem dM_fail_13 : decode cM_fail 13 = .ok (.iload_n 2, 1) := by decide +kernel
theorem dM_fail_14 : decode cM_fail 14 = .ok (.putfield 245, 3) := by decide +kernel
theorem dM_fail_17 : decode cM_fail 17 = .ok (.return_, 1) := by decide +kernel
theorem wv_1987 : Cond.fieldLink "CellForgeModel" 242 "CellForgeModel" "fault" "I" ∈ cfB := cf_in 1987 (by decide +kernel) rfl
theorem wv_1988 : Cond.fieldLink "CellForgeModel" 245 "CellForgeModel" "line" "I" ∈ cfB := cf_in 1988 (by decide +kernel) rfl
def yM_readLines : MethodName := ⟨"CellForgeModel", "readLines", "()V"⟩
abbrev cM_readLines : ByteArray := prog_14_method_19_code
theorem dM_readLines_0 : decode cM_readLines 0 = .ok (.aload_n 0, 1) := by decide +kernel
theorem dM_readLines_1 : decode cM_readLines 1 = .ok (.iconst 0, 1) := by decide +kernel
theorem dM_readLines_2 : decode cM_readLines 2 = .ok (.putfield 242, 3) := by decide +kernel
theorem dM_readLines_5 : decode cM_readLines 5 = .ok (.aload_n 0, 1) := by decide +kernel
theorem dM_readLines_6 : decode cM_readLines 6 = .ok (.iconst (-1), 1) := by decide +kernel
theorem dM_readLines_7 : decode cM_readLines 7 = .ok (.putfield 245, 3) := by decide +kernel
theorem dM_readLines_10 : decode cM_readLines 10 = .ok (.aload_n 0, 1) := by decide +kernel
theorem dM_readLines_11 : decode cM_readLines 11 = .ok (.iconst 0, 1) := by decide +kernel
theorem dM_readLines_12 : decode cM_readLines 12 = .ok (.putfield 254, 3) := by decide +kernel
theorem dM_readLines_15 : decode cM_readLines 15 = .ok (.aload_n 0, 1) := by decide +kernel
theorem dM_readLines_16 : decode cM_readLines 16 = .ok (.iconst 0, 1) := by decide +kernel
theorem dM_readLines_17 : decode cM_readLines 17 = .ok (.putfield 261, 3) := by decide +kernel
theorem dM_readLines_20 : decode cM_readLines 20 = .ok (.iconst 0, 1) := by decide +kernel
theorem dM_readLines_21 : decode cM_readLines 21 = .ok (.istore_n 1, 1) := by decide +kernel
theorem dM_readLines_22 : decode cM_readLines 22 = .ok (.iconst 0, 1) := by decide +kernel
theorem dM_readLines_23 : decode cM_readLines 23 = .ok (.istore_n 2, 1) := by decide +kernel
theorem dM_readLines_24 : decode cM_readLines 24 = .ok (.iconst 0, 1) := by decide +kernel
theorem dM_readLines_25 : decode cM_readLines 25 = .ok (.istore_n 3, 1) := by decide +kernel
theorem dM_readLines_26 : decode cM_readLines 26 = .ok (.iload_n 3, 1) := by decide +kernel
theorem dM_readLines_27 : decode cM_readLines 27 = .ok (.aload_n 0, 1) := by decide +kernel
theorem dM_readLines_28 : decode cM_readLines 28 = .ok (.getfield 232, 3) := by decide +kernel
theorem dM_readLines_31 : decode cM_readLines 31 = .ok (.if_icmp .gt 196, 3) := by decide +kernel
theorem dM_readLines_34 : decode cM_readLines 34 = .ok (.aload_n 0, 1) := by decide +kernel
theorem dM_readLines_35 : decode cM_readLines 35 = .ok (.getfield 242, 3) := by decide +kernel
theorem dM_readLines_38 : decode cM_readLines 38 = .ok (.ifCond .ne 189, 3) := by decide +kernel
theorem dM_readLines_41 : decode cM_readLines 41 = .ok (.aload_n 0, 1) := by decide +kernel
theorem dM_readLines_42 : decode cM_readLines 42 = .ok (.iload_n 3, 1) := by decide +kernel
theorem dM_readLines_43 : decode cM_readLines 43 = .ok (.invokevirtual 285, 3) := by decide +kernel
theorem dM_readLines_46 : decode cM_readLines 46 = .ok (.istore 4, 2) := by decide +kernel
theorem dM_readLines_48 : decode cM_readLines 48 = .ok (.aload_n 0, 1) := by decide +kernel
theorem dM_readLines_49 : decode cM_readLines 49 = .ok (.getfield 239, 3) := by decide +kernel
theorem dM_readLines_52 : decode cM_readLines 52 = .ok (.ifCond .le 10, 3) := by decide +kernel
theorem dM_readLines_55 : decode cM_readLines 55 = .ok (.aload_n 0, 1) := by decide +kernel
theorem dM_readLines_56 : decode cM_readLines 56 = .ok (.invokevirtual 289, 3) := by decide +kernel
theorem dM_readLines_59 : decode cM_readLines 59 = .ok (.goto 4, 3) := by decide +kernel
theorem dM_readLines_62 : decode cM_readLines 62 = .ok (.iconst (-1), 1) := by decide +kernel
theorem dM_readLines_63 : decode cM_readLines 63 = .ok (.istore 5, 2) := by decide +kernel
theorem dM_readLines_65 : decode cM_readLines 65 = .ok (.aload_n 0, 1) := by decide +kernel
theorem dM_readLines_66 : decode cM_readLines 66 = .ok (.getfield 239, 3) := by decide +kernel
theorem dM_readLines_69 : decode cM_readLines 69 = .ok (.ifCond .ne 7, 3) := by decide +kernel
theorem dM_readLines_72 : decode cM_readLines 72 = .ok (.iconst 1, 1) := by decide +kernel
theorem dM_readLines_73 : decode cM_readLines 73 = .ok (.goto 4, 3) := by decide +kernel
theorem dM_readLines_76 : decode cM_readLines 76 = .ok (.iconst 0, 1) := by decide +kernel
theorem dM_readLines_77 : decode cM_readLines 77 = .ok (.istore 6, 2) := by decide +kernel
theorem dM_readLines_79 : decode cM_readLines 79 = .ok (.iload 6, 2) := by decide +kernel
theorem dM_readLines_81 : decode cM_readLines 81 = .ok (.ifCond .ne 22, 3) := by decide +kernel
theorem dM_readLines_84 : decode cM_readLines 84 = .ok (.iload_n 1, 1) := by decide +kernel
theorem dM_readLines_85 : decode cM_readLines 85 = .ok (.ifCond .ne 18, 3) := by decide +kernel
theorem dM_readLines_88 : decode cM_readLines 88 = .ok (.iload 5, 2) := by decide +kernel
theorem dM_readLines_90 : decode cM_readLines 90 = .ok (.ifCond .ne 13, 3) := by decide +kernel
theorem dM_readLines_93 : decode cM_readLines 93 = .ok (.aload_n 0, 1) := by decide +kernel
theorem dM_readLines_94 : decode cM_readLines 94 = .ok (.iload_n 2, 1) := by decide +kernel
theorem dM_readLines_95 : decode cM_readLines 95 = .ok (.invokevirtual 293, 3) := by decide +kernel
theorem dM_readLines_98 : decode cM_readLines 98 = .ok (.iconst 1, 1) := by decide +kernel
theorem dM_readLines_99 : decode cM_readLines 99 = .ok (.istore_n 1, 1) := by decide +kernel
theorem dM_readLines_100 : decode cM_readLines 100 = .ok (.goto 116, 3) := by decide +kernel
theorem dM_readLines_103 : decode cM_readLines 103 = .ok (.iload 6, 2) := by decide +kernel
theorem dM_readLines_105 : decode cM_readLines 105 = .ok (.ifCond .ne 24, 3) := by decide +kernel
theorem dM_readLines_108 : decode cM_readLines 108 = .ok (.iload_n 1, 1) := by decide +kernel
theorem dM_readLines_109 : decode cM_readLines 109 = .ok (.iconst 1, 1) := by decide +kernel
theorem dM_readLines_110 : decode cM_readLines 110 = .ok (.if_icmp .ne 19, 3) := by decide +kernel
theorem dM_readLines_113 : decode cM_readLines 113 = .ok (.iload 5, 2) := by decide +kernel
theorem dM_readLines_115 : decode cM_readLines 115 = .ok (.iconst 1, 1) := by decide +kernel
theorem dM_readLines_116 : decode cM_readLines 116 = .ok (.if_icmp .ne 13, 3) := by decide +kernel
theorem dM_readLines_119 : decode cM_readLines 119 = .ok (.aload_n 0, 1) := by decide +kernel
theorem dM_readLines_120 : decode cM_readLines 120 = .ok (.iload_n 2, 1) := by decide +kernel
theorem dM_readLines_121 : decode cM_readLines 121 = .ok (.invokevirtual 297, 3) := by decide +kernel
theorem dM_readLines_124 : decode cM_readLines 124 = .ok (.iconst 2, 1) := by decide +kernel
theorem dM_readLines_125 : decode cM_readLines 125 = .ok (.istore_n 1, 1) := by decide +kernel
theorem dM_readLines_126 : decode cM_readLines 126 = .ok (.goto 90, 3) := by decide +kernel
theorem dM_readLines_129 : decode cM_readLines 129 = .ok (.iload 6, 2) := by decide +kernel
theorem dM_readLines_131 : decode cM_readLines 131 = .ok (.ifCond .ne 22, 3) := by decide +kernel
theorem dM_readLines_134 : decode cM_readLines 134 = .ok (.iload_n 1, 1) := by decide +kernel
theorem dM_readLines_135 : decode cM_readLines 135 = .ok (.iconst 2, 1) := by decide +kernel
theorem dM_readLines_136 : decode cM_readLines 136 = .ok (.if_icmp .ne 17, 3) := by decide +kernel
theorem dM_readLines_139 : decode cM_readLines 139 = .ok (.iload 5, 2) := by decide +kernel
theorem dM_readLines_141 : decode cM_readLines 141 = .ok (.iconst 2, 1) := by decide +kernel
theorem dM_readLines_142 : decode cM_readLines 142 = .ok (.if_icmp .ne 11, 3) := by decide +kernel
theorem dM_readLines_145 : decode cM_readLines 145 = .ok (.aload_n 0, 1) := by decide +kernel
theorem dM_readLines_146 : decode cM_readLines 146 = .ok (.iload_n 2, 1) := by decide +kernel
theorem dM_readLines_147 : decode cM_readLines 147 = .ok (.invokevirtual 300, 3) := by decide +kernel
theorem dM_readLines_150 : decode cM_readLines 150 = .ok (.goto 66, 3) := by decide +kernel
theorem dM_readLines_153 : decode cM_readLines 153 = .ok (.iload 6, 2) := by decide +kernel
theorem dM_readLines_155 : decode cM_readLines 155 = .ok (.ifCond .ne 27, 3) := by decide +kernel
theorem dM_readLines_158 : decode cM_readLines 158 = .ok (.iload_n 1, 1) := by decide +kernel
theorem dM_readLines_159 : decode cM_readLines 159 = .ok (.iconst 2, 1) := by decide +kernel
theorem dM_readLines_160 : decode cM_readLines 160 = .ok (.if_icmp .ne 22, 3) := by decide +kernel
theorem dM_readLines_163 : decode cM_readLines 163 = .ok (.iload 5, 2) := by decide +kernel
theorem dM_readLines_165 : decode cM_readLines 165 = .ok (.iconst 3, 1) := by decide +kernel
theorem dM_readLines_166 : decode cM_readLines 166 = .ok (.if_icmp .ne 16, 3) := by decide +kernel
theorem dM_readLines_169 : decode cM_readLines 169 = .ok (.aload_n 0, 1) := by decide +kernel
theorem dM_readLines_170 : decode cM_readLines 170 = .ok (.getfield 239, 3) := by decide +kernel
theorem dM_readLines_173 : decode cM_readLines 173 = .ok (.iconst 1, 1) := by decide +kernel
theorem dM_readLines_174 : decode cM_readLines 174 = .ok (.if_icmp .ne 8, 3) := by decide +kernel
theorem dM_readLines_177 : decode cM_readLines 177 = .ok (.iconst 3, 1) := by decide +kernel
theorem dM_readLines_178 : decode cM_readLines 178 = .ok (.istore_n 1, 1) := by decide +kernel
theorem dM_readLines_179 : decode cM_readLines 179 = .ok (.goto 37, 3) := by decide +kernel
theorem dM_readLines_182 : decode cM_readLines 182 = .ok (.iload 6, 2) := by decide +kernel
theorem dM_readLines_184 : decode cM_readLines 184 = .ok (.ifCond .ne 21, 3) := by decide +kernel
theorem dM_readLines_187 : decode cM_readLines 187 = .ok (.iload_n 1, 1) := by decide +kernel
theorem dM_readLines_188 : decode cM_readLines 188 = .ok (.iconst 2, 1) := by decide +kernel
theorem dM_readLines_189 : decode cM_readLines 189 = .ok (.if_icmp .ne 16, 3) := by decide +kernel
theorem dM_readLines_192 : decode cM_readLines 192 = .ok (.iload 5, 2) := by decide +kernel
theorem dM_readLines_194 : decode cM_readLines 194 = .ok (.ifCond .ge 11, 3) := by decide +kernel
theorem dM_readLines_197 : decode cM_readLines 197 = .ok (.aload_n 0, 1) := by decide +kernel
theorem dM_readLines_198 : decode cM_readLines 198 = .ok (.iload_n 2, 1) := by decide +kernel
theorem dM_readLines_199 : decode cM_readLines 199 = .ok (.invokevirtual 303, 3) := by decide +kernel
theorem dM_readLines_202 : decode cM_readLines 202 = .ok (.goto 14, 3) := by decide +kernel
theorem dM_readLines_205 : decode cM_readLines 205 = .ok (.iload 6, 2) := by decide +kernel
theorem dM_readLines_207 : decode cM_readLines 207 = .ok (.ifCond .ne 9, 3) := by decide +kernel
theorem dM_readLines_210 : decode cM_readLines 210 = .ok (.aload_n 0, 1) := by decide +kernel
theorem dM_readLines_211 : decode cM_readLines 211 = .ok (.iconst 1, 1) := by decide +kernel
theorem dM_readLines_212 : decode cM_readLines 212 = .ok (.iload_n 2, 1) := by decide +kernel
theorem dM_readLines_213 : decode cM_readLines 213 = .ok (.invokevirtual 267, 3) := by decide +kernel
theorem dM_readLines_216 : decode cM_readLines 216 = .ok (.iload 4, 2) := by decide +kernel
theorem dM_readLines_218 : decode cM_readLines 218 = .ok (.iconst 1, 1) := by decide +kernel
theorem dM_readLines_219 : decode cM_readLines 219 = .ok (.iadd, 1) := by decide +kernel
theorem dM_readLines_220 : decode cM_readLines 220 = .ok (.istore_n 3, 1) := by decide +kernel
theorem dM_readLines_221 : decode cM_readLines 221 = .ok (.iinc 2 1, 3) := by decide +kernel
theorem dM_readLines_224 : decode cM_readLines 224 = .ok (.goto (-198), 3) := by decide +kernel
theorem dM_readLines_227 : decode cM_readLines 227 = .ok (.iload_n 1, 1) := by decide +kernel
theorem dM_readLines_228 : decode cM_readLines 228 = .ok (.iconst 3, 1) := by decide +kernel
theorem dM_readLines_229 : decode cM_readLines 229 = .ok (.if_icmp .ge 9, 3) := by decide +kernel
theorem dM_readLines_232 : decode cM_readLines 232 = .ok (.aload_n 0, 1) := by decide +kernel
theorem dM_readLines_233 : decode cM_readLines 233 = .ok (.iconst 1, 1) := by decide +kernel
theorem dM_readLines_234 : decode cM_readLines 234 = .ok (.iload_n 2, 1) := by decide +kernel
theorem dM_readLines_235 : decode cM_readLines 235 = .ok (.invokevirtual 267, 3) := by decide +kernel
theorem dM_readLines_238 : decode cM_readLines 238 = .ok (.return_, 1) := by decide +kernel
theorem wv_1992 : Cond.fieldLink "CellForgeModel" 254 "CellForgeModel" "newInputs" "I" ∈ cfB := cf_in 1992 (by decide +kernel) rfl
theorem wv_1999 : Cond.fieldLink "CellForgeModel" 261 "CellForgeModel" "tables" "I" ∈ cfB := cf_in 1999 (by decide +kernel) rfl
theorem wv_2310 : Cond.code (⟨"CellForgeModel", "takeLine", "(I)I"⟩ : MethodName) prog_14_method_7_code 5 (Option.some Jvm.ClassFile.FieldType.int) ∈ cfB := cf_in 2310 (by decide +kernel) rfl
theorem wv_2307 : Cond.methodLink "CellForgeModel" 285 (⟨"CellForgeModel", "takeLine", "(I)I"⟩ : MethodName) ∈ cfB := cf_in 2307 (by decide +kernel) rfl
theorem wv_2309 : Cond.instanceMethod (⟨"CellForgeModel", "takeLine", "(I)I"⟩ : MethodName) ∈ cfB := cf_in 2309 (by decide +kernel) rfl
theorem wv_65 : Cond.selects "CellForgeModel" (⟨"CellForgeModel", "takeLine", "(I)I"⟩ : MethodName) (⟨"CellForgeModel", "takeLine", "(I)I"⟩ : MethodName) ∈ cfB := cf_in 65 (by decide +kernel) rfl
theorem wv_2331 : Cond.code (⟨"CellForgeModel", "fail", "(II)V"⟩ : MethodName) prog_14_method_8_code 3 (Option.none : Option Jvm.ClassFile.FieldType) ∈ cfB := cf_in 2331 (by decide +kernel) rfl
theorem wv_2328 : Cond.methodLink "CellForgeModel" 267 (⟨"CellForgeModel", "fail", "(II)V"⟩ : MethodName) ∈ cfB := cf_in 2328 (by decide +kernel) rfl
theorem wv_2330 : Cond.instanceMethod (⟨"CellForgeModel", "fail", "(II)V"⟩ : MethodName) ∈ cfB := cf_in 2330 (by decide +kernel) rfl
theorem wv_70 : Cond.selects "CellForgeModel" (⟨"CellForgeModel", "fail", "(II)V"⟩ : MethodName) (⟨"CellForgeModel", "fail", "(II)V"⟩ : MethodName) ∈ cfB := cf_in 70 (by decide +kernel) rfl
def yM_read : MethodName := ⟨"CellForgeModel", "read", "()I"⟩
abbrev cM_read : ByteArray := prog_14_method_30_code
theorem dM_read_0 : decode cM_read 0 = .ok (.aload_n 0, 1) := by decide +kernel
theorem dM_read_1 : decode cM_read 1 = .ok (.iconst 0, 1) := by decide +kernel
theorem dM_read_2 : decode cM_read 2 = .ok (.putfield 225, 3) := by decide +kernel
theorem dM_read_5 : decode cM_read 5 = .ok (.aload_n 0, 1) := by decide +kernel
theorem dM_read_6 : decode cM_read 6 = .ok (.getfield 245, 3) := by decide +kernel
theorem dM_read_9 : decode cM_read 9 = .ok (.istore_n 1, 1) := by decide +kernel
theorem dM_read_10 : decode cM_read 10 = .ok (.aload_n 0, 1) := by decide +kernel
theorem dM_read_11 : decode cM_read 11 = .ok (.invokevirtual 346, 3) := by decide +kernel
theorem dM_read_14 : decode cM_read 14 = .ok (.aload_n 0, 1) := by decide +kernel
theorem dM_read_15 : decode cM_read 15 = .ok (.getfield 242, 3) := by decide +kernel
theorem dM_read_18 : decode cM_read 18 = .ok (.ifCond .ne 7, 3) := by decide +kernel
theorem dM_read_21 : decode cM_read 21 = .ok (.aload_n 0, 1) := by decide +kernel
theorem dM_read_22 : decode cM_read 22 = .ok (.invokevirtual 349, 3) := by decide +kernel
theorem dM_read_25 : decode cM_read 25 = .ok (.iconst 0, 1) := by decide +kernel
theorem dM_read_26 : decode cM_read 26 = .ok (.istore_n 2, 1) := by decide +kernel
theorem dM_read_27 : decode cM_read 27 = .ok (.iload_n 2, 1) := by decide +kernel
theorem dM_read_28 : decode cM_read 28 = .ok (.aload_n 0, 1) := by decide +kernel
theorem dM_read_29 : decode cM_read 29 = .ok (.getfield 261, 3) := by decide +kernel
theorem dM_read_32 : decode cM_read 32 = .ok (.if_icmp .ge 35, 3) := by decide +kernel
theorem dM_read_35 : decode cM_read 35 = .ok (.aload_n 0, 1) := by decide +kernel
theorem dM_read_36 : decode cM_read 36 = .ok (.getfield 242, 3) := by decide +kernel
theorem dM_read_39 : decode cM_read 39 = .ok (.ifCond .ne 28, 3) := by decide +kernel
theorem dM_read_42 : decode cM_read 42 = .ok (.aload_n 0, 1) := by decide +kernel
theorem dM_read_43 : decode cM_read 43 = .ok (.iload_n 2, 1) := by decide +kernel
theorem dM_read_44 : decode cM_read 44 = .ok (.invokevirtual 352, 3) := by decide +kernel
theorem dM_read_47 : decode cM_read 47 = .ok (.ifCond .eq 14, 3) := by decide +kernel
theorem dM_read_50 : decode cM_read 50 = .ok (.aload_n 0, 1) := by decide +kernel
theorem dM_read_51 : decode cM_read 51 = .ok (.iconst 4, 1) := by decide +kernel
theorem dM_read_52 : decode cM_read 52 = .ok (.aload_n 0, 1) := by decide +kernel
theorem dM_read_53 : decode cM_read 53 = .ok (.getfield 39, 3) := by decide +kernel
theorem dM_read_56 : decode cM_read 56 = .ok (.iload_n 2, 1) := by decide +kernel
theorem dM_read_57 : decode cM_read 57 = .ok (.iaload, 1) := by decide +kernel
theorem dM_read_58 : decode cM_read 58 = .ok (.invokevirtual 267, 3) := by decide +kernel
theorem dM_read_61 : decode cM_read 61 = .ok (.iinc 2 1, 3) := by decide +kernel
theorem dM_read_64 : decode cM_read 64 = .ok (.goto (-37), 3) := by decide +kernel
theorem dM_read_67 : decode cM_read 67 = .ok (.aload_n 0, 1) := by decide +kernel
theorem dM_read_68 : decode cM_read 68 = .ok (.getfield 242, 3) := by decide +kernel
theorem dM_read_71 : decode cM_read 71 = .ok (.ifCond .le 16, 3) := by decide +kernel
theorem dM_read_74 : decode cM_read 74 = .ok (.aload_n 0, 1) := by decide +kernel
theorem dM_read_75 : decode cM_read 75 = .ok (.aload_n 0, 1) := by decide +kernel
theorem dM_read_76 : decode cM_read 76 = .ok (.getfield 245, 3) := by decide +kernel
theorem dM_read_79 : decode cM_read 79 = .ok (.putfield 13, 3) := by decide +kernel
theorem dM_read_82 : decode cM_read 82 = .ok (.aload_n 0, 1) := by decide +kernel
theorem dM_read_83 : decode cM_read 83 = .ok (.getfield 242, 3) := by decide +kernel
theorem dM_read_86 : decode cM_read 86 = .ok (.ireturn, 1) := by decide +kernel
theorem dM_read_87 : decode cM_read 87 = .ok (.aload_n 0, 1) := by decide +kernel
theorem dM_read_88 : decode cM_read 88 = .ok (.invokevirtual 355, 3) := by decide +kernel
theorem dM_read_91 : decode cM_read 91 = .ok (.aload_n 0, 1) := by decide +kernel
theorem dM_read_92 : decode cM_read 92 = .ok (.aload_n 0, 1) := by decide +kernel
theorem dM_read_93 : decode cM_read 93 = .ok (.getfield 312, 3) := by decide +kernel
theorem dM_read_96 : decode cM_read 96 = .ok (.iconst 0, 1) := by decide +kernel
theorem dM_read_97 : decode cM_read 97 = .ok (.iconst 0, 1) := by decide +kernel
theorem dM_read_98 : decode cM_read 98 = .ok (.invokevirtual 235, 3) := by decide +kernel
theorem dM_read_101 : decode cM_read 101 = .ok (.ifCond .eq 10, 3) := by decide +kernel
theorem dM_read_104 : decode cM_read 104 = .ok (.aload_n 0, 1) := by decide +kernel
theorem dM_read_105 : decode cM_read 105 = .ok (.iload_n 1, 1) := by decide +kernel
theorem dM_read_106 : decode cM_read 106 = .ok (.putfield 245, 3) := by decide +kernel
theorem dM_read_109 : decode cM_read 109 = .ok (.iconst 0, 1) := by decide +kernel
theorem dM_read_110 : decode cM_read 110 = .ok (.ireturn, 1) := by decide +kernel
theorem dM_read_111 : decode cM_read 111 = .ok (.aload_n 0, 1) := by decide +kernel
theorem dM_read_112 : decode cM_read 112 = .ok (.iconst (-1), 1) := by decide +kernel
theorem dM_read_113 : decode cM_read 113 = .ok (.putfield 13, 3) := by decide +kernel
theorem dM_read_116 : decode cM_read 116 = .ok (.aload_n 0, 1) := by decide +kernel
theorem dM_read_117 : decode cM_read 117 = .ok (.iconst 1, 1) := by decide +kernel
theorem dM_read_118 : decode cM_read 118 = .ok (.putfield 358, 3) := by decide +kernel
theorem dM_read_121 : decode cM_read 121 = .ok (.aload_n 0, 1) := by decide +kernel
theorem dM_read_122 : decode cM_read 122 = .ok (.aload_n 0, 1) := by decide +kernel
theorem dM_read_123 : decode cM_read 123 = .ok (.getfield 254, 3) := by decide +kernel
theorem dM_read_126 : decode cM_read 126 = .ok (.putfield 361, 3) := by decide +kernel
theorem dM_read_129 : decode cM_read 129 = .ok (.aload_n 0, 1) := by decide +kernel
theorem dM_read_130 : decode cM_read 130 = .ok (.aload_n 0, 1) := by decide +kernel
theorem dM_read_131 : decode cM_read 131 = .ok (.getfield 278, 3) := by decide +kernel
theorem dM_read_134 : decode cM_read 134 = .ok (.putfield 337, 3) := by decide +kernel
theorem dM_read_137 : decode cM_read 137 = .ok (.aload_n 0, 1) := by decide +kernel
theorem dM_read_138 : decode cM_read 138 = .ok (.aload_n 0, 1) := by decide +kernel
theorem dM_read_139 : decode cM_read 139 = .ok (.getfield 88, 3) := by decide +kernel
theorem dM_read_142 : decode cM_read 142 = .ok (.aload_n 0, 1) := by decide +kernel
theorem dM_read_143 : decode cM_read 143 = .ok (.getfield 361, 3) := by decide +kernel
theorem dM_read_146 : decode cM_read 146 = .ok (.aload_n 0, 1) := by decide +kernel
theorem dM_read_147 : decode cM_read 147 = .ok (.getfield 27, 3) := by decide +kernel
theorem dM_read_150 : decode cM_read 150 = .ok (.aload_n 0, 1) := by decide +kernel
theorem dM_read_151 : decode cM_read 151 = .ok (.getfield 30, 3) := by decide +kernel
theorem dM_read_154 : decode cM_read 154 = .ok (.invokevirtual 364, 3) := by decide +kernel
theorem dM_read_157 : decode cM_read 157 = .ok (.aload_n 0, 1) := by decide +kernel
theorem dM_read_158 : decode cM_read 158 = .ok (.aload_n 0, 1) := by decide +kernel
theorem dM_read_159 : decode cM_read 159 = .ok (.getfield 91, 3) := by decide +kernel
theorem dM_read_162 : decode cM_read 162 = .ok (.aload_n 0, 1) := by decide +kernel
theorem dM_read_163 : decode cM_read 163 = .ok (.getfield 337, 3) := by decide +kernel
theorem dM_read_166 : decode cM_read 166 = .ok (.aload_n 0, 1) := by decide +kernel
theorem dM_read_167 : decode cM_read 167 = .ok (.getfield 33, 3) := by decide +kernel
theorem dM_read_170 : decode cM_read 170 = .ok (.aload_n 0, 1) := by decide +kernel
theorem dM_read_171 : decode cM_read 171 = .ok (.getfield 36, 3) := by decide +kernel
theorem dM_read_174 : decode cM_read 174 = .ok (.invokevirtual 364, 3) := by decide +kernel
theorem dM_read_177 : decode cM_read 177 = .ok (.aload_n 0, 1) := by decide +kernel
theorem dM_read_178 : decode cM_read 178 = .ok (.invokevirtual 368, 3) := by decide +kernel
theorem dM_read_181 : decode cM_read 181 = .ok (.iconst 0, 1) := by decide +kernel
theorem dM_read_182 : decode cM_read 182 = .ok (.ireturn, 1) := by decide +kernel
theorem wv_2306 : Cond.code (⟨"CellForgeModel", "readLines", "()V"⟩ : MethodName) prog_14_method_19_code 7 (Option.none : Option Jvm.ClassFile.FieldType) ∈ cfB := cf_in 2306 (by decide +kernel) rfl
theorem wv_2303 : Cond.methodLink "CellForgeModel" 346 (⟨"CellForgeModel", "readLines", "()V"⟩ : MethodName) ∈ cfB := cf_in 2303 (by decide +kernel) rfl
theorem wv_2305 : Cond.instanceMethod (⟨"CellForgeModel", "readLines", "()V"⟩ : MethodName) ∈ cfB := cf_in 2305 (by decide +kernel) rfl
theorem wv_64 : Cond.selects "CellForgeModel" (⟨"CellForgeModel", "readLines", "()V"⟩ : MethodName) (⟨"CellForgeModel", "readLines", "()V"⟩ : MethodName) ∈ cfB := cf_in 64 (by decide +kernel) rfl
def yM_readLibrary : MethodName := ⟨"CellForgeModel", "readLibrary", "()V"⟩
abbrev cM_readLibrary : ByteArray := prog_14_method_102_code
theorem dM_readLibrary_0 : decode cM_readLibrary 0 = .ok (.aload_n 0, 1) := by decide +kernel
theorem dM_readLibrary_1 : decode cM_readLibrary 1 = .ok (.iconst 0, 1) := by decide +kernel
theorem dM_readLibrary_2 : decode cM_readLibrary 2 = .ok (.putfield 242, 3) := by decide +kernel
theorem dM_readLibrary_5 : decode cM_readLibrary 5 = .ok (.aload_n 0, 1) := by decide +kernel
theorem dM_readLibrary_6 : decode cM_readLibrary 6 = .ok (.iconst (-1), 1) := by decide +kernel
theorem dM_readLibrary_7 : decode cM_readLibrary 7 = .ok (.putfield 245, 3) := by decide +kernel
theorem dM_readLibrary_10 : decode cM_readLibrary 10 = .ok (.aload_n 0, 1) := by decide +kernel
theorem dM_readLibrary_11 : decode cM_readLibrary 11 = .ok (.iconst 0, 1) := by decide +kernel
theorem dM_readLibrary_12 : decode cM_readLibrary 12 = .ok (.putfield 577, 3) := by decide +kernel
theorem dM_readLibrary_15 : decode cM_readLibrary 15 = .ok (.iconst 0, 1) := by decide +kernel
theorem dM_readLibrary_16 : decode cM_readLibrary 16 = .ok (.istore_n 1, 1) := by decide +kernel
theorem dM_readLibrary_17 : decode cM_readLibrary 17 = .ok (.iconst 0, 1) := by decide +kernel
theorem dM_readLibrary_18 : decode cM_readLibrary 18 = .ok (.istore_n 2, 1) := by decide +kernel
theorem dM_readLibrary_19 : decode cM_readLibrary 19 = .ok (.iconst 0, 1) := by decide +kernel
theorem dM_readLibrary_20 : decode cM_readLibrary 20 = .ok (.istore_n 3, 1) := by decide +kernel
theorem dM_readLibrary_21 : decode cM_readLibrary 21 = .ok (.iload_n 3, 1) := by decide +kernel
theorem dM_readLibrary_22 : decode cM_readLibrary 22 = .ok (.aload_n 0, 1) := by decide +kernel
theorem dM_readLibrary_23 : decode cM_readLibrary 23 = .ok (.getfield 232, 3) := by decide +kernel
theorem dM_readLibrary_26 : decode cM_readLibrary 26 = .ok (.if_icmp .gt 103, 3) := by decide +kernel
theorem dM_readLibrary_29 : decode cM_readLibrary 29 = .ok (.aload_n 0, 1) := by decide +kernel
theorem dM_readLibrary_30 : decode cM_readLibrary 30 = .ok (.getfield 242, 3) := by decide +kernel
theorem dM_readLibrary_33 : decode cM_readLibrary 33 = .ok (.ifCond .ne 96, 3) := by decide +kernel
theorem dM_readLibrary_36 : decode cM_readLibrary 36 = .ok (.aload_n 0, 1) := by decide +kernel
theorem dM_readLibrary_37 : decode cM_readLibrary 37 = .ok (.iload_n 3, 1) := by decide +kernel
theorem dM_readLibrary_38 : decode cM_readLibrary 38 = .ok (.invokevirtual 285, 3) := by decide +kernel
theorem dM_readLibrary_41 : decode cM_readLibrary 41 = .ok (.istore 4, 2) := by decide +kernel
theorem dM_readLibrary_43 : decode cM_readLibrary 43 = .ok (.aload_n 0, 1) := by decide +kernel
theorem dM_readLibrary_44 : decode cM_readLibrary 44 = .ok (.getfield 239, 3) := by decide +kernel
theorem dM_readLibrary_47 : decode cM_readLibrary 47 = .ok (.ifCond .ne 7, 3) := by decide +kernel
theorem dM_readLibrary_50 : decode cM_readLibrary 50 = .ok (.iconst 1, 1) := by decide +kernel
theorem dM_readLibrary_51 : decode cM_readLibrary 51 = .ok (.goto 4, 3) := by decide +kernel
theorem dM_readLibrary_54 : decode cM_readLibrary 54 = .ok (.iconst 0, 1) := by decide +kernel
theorem dM_readLibrary_55 : decode cM_readLibrary 55 = .ok (.istore 5, 2) := by decide +kernel
theorem dM_readLibrary_57 : decode cM_readLibrary 57 = .ok (.iload 5, 2) := by decide +kernel
theorem dM_readLibrary_59 : decode cM_readLibrary 59 = .ok (.ifCond .ne 16, 3) := by decide +kernel
theorem dM_readLibrary_62 : decode cM_readLibrary 62 = .ok (.iload_n 1, 1) := by decide +kernel
theorem dM_readLibrary_63 : decode cM_readLibrary 63 = .ok (.ifCond .eq 12, 3) := by decide +kernel
theorem dM_readLibrary_66 : decode cM_readLibrary 66 = .ok (.aload_n 0, 1) := by decide +kernel
theorem dM_readLibrary_67 : decode cM_readLibrary 67 = .ok (.iconst 1, 1) := by decide +kernel
theorem dM_readLibrary_68 : decode cM_readLibrary 68 = .ok (.iload_n 2, 1) := by decide +kernel
theorem dM_readLibrary_69 : decode cM_readLibrary 69 = .ok (.invokevirtual 267, 3) := by decide +kernel
theorem dM_readLibrary_72 : decode cM_readLibrary 72 = .ok (.goto 46, 3) := by decide +kernel
theorem dM_readLibrary_75 : decode cM_readLibrary 75 = .ok (.iload 5, 2) := by decide +kernel
theorem dM_readLibrary_77 : decode cM_readLibrary 77 = .ok (.ifCond .ne 31, 3) := by decide +kernel
theorem dM_readLibrary_80 : decode cM_readLibrary 80 = .ok (.aload_n 0, 1) := by decide +kernel
theorem dM_readLibrary_81 : decode cM_readLibrary 81 = .ok (.getfield 577, 3) := by decide +kernel
theorem dM_readLibrary_84 : decode cM_readLibrary 84 = .ok (.ifCond .le 24, 3) := by decide +kernel
theorem dM_readLibrary_87 : decode cM_readLibrary 87 = .ok (.aload_n 0, 1) := by decide +kernel
theorem dM_readLibrary_88 : decode cM_readLibrary 88 = .ok (.getfield 239, 3) := by decide +kernel
theorem dM_readLibrary_91 : decode cM_readLibrary 91 = .ok (.iconst 1, 1) := by decide +kernel
theorem dM_readLibrary_92 : decode cM_readLibrary 92 = .ok (.if_icmp .ne 16, 3) := by decide +kernel
theorem dM_readLibrary_95 : decode cM_readLibrary 95 = .ok (.aload_n 0, 1) := by decide +kernel
theorem dM_readLibrary_96 : decode cM_readLibrary 96 = .ok (.invokevirtual 289, 3) := by decide +kernel
theorem dM_readLibrary_99 : decode cM_readLibrary 99 = .ok (.iconst 3, 1) := by decide +kernel
theorem dM_readLibrary_100 : decode cM_readLibrary 100 = .ok (.if_icmp .ne 8, 3) := by decide +kernel
theorem dM_readLibrary_103 : decode cM_readLibrary 103 = .ok (.iconst 1, 1) := by decide +kernel
theorem dM_readLibrary_104 : decode cM_readLibrary 104 = .ok (.istore_n 1, 1) := by decide +kernel
theorem dM_readLibrary_105 : decode cM_readLibrary 105 = .ok (.goto 13, 3) := by decide +kernel
theorem dM_readLibrary_108 : decode cM_readLibrary 108 = .ok (.iload 5, 2) := by decide +kernel
theorem dM_readLibrary_110 : decode cM_readLibrary 110 = .ok (.ifCond .ne 8, 3) := by decide +kernel
theorem dM_readLibrary_113 : decode cM_readLibrary 113 = .ok (.aload_n 0, 1) := by decide +kernel
theorem dM_readLibrary_114 : decode cM_readLibrary 114 = .ok (.iload_n 2, 1) := by decide +kernel
theorem dM_readLibrary_115 : decode cM_readLibrary 115 = .ok (.invokevirtual 592, 3) := by decide +kernel
theorem dM_readLibrary_118 : decode cM_readLibrary 118 = .ok (.iload 4, 2) := by decide +kernel
theorem dM_readLibrary_120 : decode cM_readLibrary 120 = .ok (.iconst 1, 1) := by decide +kernel
theorem dM_readLibrary_121 : decode cM_readLibrary 121 = .ok (.iadd, 1) := by decide +kernel
theorem dM_readLibrary_122 : decode cM_readLibrary 122 = .ok (.istore_n 3, 1) := by decide +kernel
theorem dM_readLibrary_123 : decode cM_readLibrary 123 = .ok (.iinc 2 1, 3) := by decide +kernel
theorem dM_readLibrary_126 : decode cM_readLibrary 126 = .ok (.goto (-105), 3) := by decide +kernel
theorem dM_readLibrary_129 : decode cM_readLibrary 129 = .ok (.iload_n 1, 1) := by decide +kernel
theorem dM_readLibrary_130 : decode cM_readLibrary 130 = .ok (.ifCond .ne 9, 3) := by decide +kernel
theorem dM_readLibrary_133 : decode cM_readLibrary 133 = .ok (.aload_n 0, 1) := by decide +kernel
theorem dM_readLibrary_134 : decode cM_readLibrary 134 = .ok (.iconst 1, 1) := by decide +kernel
theorem dM_readLibrary_135 : decode cM_readLibrary 135 = .ok (.iload_n 2, 1) := by decide +kernel
theorem dM_readLibrary_136 : decode cM_readLibrary 136 = .ok (.invokevirtual 267, 3) := by decide +kernel
theorem dM_readLibrary_139 : decode cM_readLibrary 139 = .ok (.return_, 1) := by decide +kernel
theorem wv_2061 : Cond.fieldLink "CellForgeModel" 577 "CellForgeModel" "newCells" "I" ∈ cfB := cf_in 2061 (by decide +kernel) rfl
def yM_library : MethodName := ⟨"CellForgeModel", "library", "()I"⟩
abbrev cM_library : ByteArray := prog_14_method_103_code
theorem dM_library_0 : decode cM_library 0 = .ok (.aload_n 0, 1) := by decide +kernel
theorem dM_library_1 : decode cM_library 1 = .ok (.iconst 0, 1) := by decide +kernel
theorem dM_library_2 : decode cM_library 2 = .ok (.putfield 225, 3) := by decide +kernel
theorem dM_library_5 : decode cM_library 5 = .ok (.aload_n 0, 1) := by decide +kernel
theorem dM_library_6 : decode cM_library 6 = .ok (.getfield 245, 3) := by decide +kernel
theorem dM_library_9 : decode cM_library 9 = .ok (.istore_n 1, 1) := by decide +kernel
theorem dM_library_10 : decode cM_library 10 = .ok (.aload_n 0, 1) := by decide +kernel
theorem dM_library_11 : decode cM_library 11 = .ok (.invokevirtual 595, 3) := by decide +kernel
theorem dM_library_14 : decode cM_library 14 = .ok (.aload_n 0, 1) := by decide +kernel
theorem dM_library_15 : decode cM_library 15 = .ok (.aload_n 0, 1) := by decide +kernel
theorem dM_library_16 : decode cM_library 16 = .ok (.getfield 242, 3) := by decide +kernel
theorem dM_library_19 : decode cM_library 19 = .ok (.ifCond .le 10, 3) := by decide +kernel
theorem dM_library_22 : decode cM_library 22 = .ok (.aload_n 0, 1) := by decide +kernel
theorem dM_library_23 : decode cM_library 23 = .ok (.getfield 245, 3) := by decide +kernel
theorem dM_library_26 : decode cM_library 26 = .ok (.goto 4, 3) := by decide +kernel
theorem dM_library_29 : decode cM_library 29 = .ok (.iconst (-1), 1) := by decide +kernel
theorem dM_library_30 : decode cM_library 30 = .ok (.putfield 13, 3) := by decide +kernel
theorem dM_library_33 : decode cM_library 33 = .ok (.aload_n 0, 1) := by decide +kernel
theorem dM_library_34 : decode cM_library 34 = .ok (.iload_n 1, 1) := by decide +kernel
theorem dM_library_35 : decode cM_library 35 = .ok (.putfield 245, 3) := by decide +kernel
theorem dM_library_38 : decode cM_library 38 = .ok (.aload_n 0, 1) := by decide +kernel
theorem dM_library_39 : decode cM_library 39 = .ok (.getfield 242, 3) := by decide +kernel
theorem dM_library_42 : decode cM_library 42 = .ok (.ifCond .le 8, 3) := by decide +kernel
theorem dM_library_45 : decode cM_library 45 = .ok (.aload_n 0, 1) := by decide +kernel
theorem dM_library_46 : decode cM_library 46 = .ok (.getfield 242, 3) := by decide +kernel
theorem dM_library_49 : decode cM_library 49 = .ok (.ireturn, 1) := by decide +kernel
theorem dM_library_50 : decode cM_library 50 = .ok (.aload_n 0, 1) := by decide +kernel
theorem dM_library_51 : decode cM_library 51 = .ok (.iconst 1, 1) := by decide +kernel
theorem dM_library_52 : decode cM_library 52 = .ok (.putfield 598, 3) := by decide +kernel
theorem dM_library_55 : decode cM_library 55 = .ok (.aload_n 0, 1) := by decide +kernel
theorem dM_library_56 : decode cM_library 56 = .ok (.iconst 0, 1) := by decide +kernel
theorem dM_library_57 : decode cM_library 57 = .ok (.putfield 343, 3) := by decide +kernel
theorem dM_library_60 : decode cM_library 60 = .ok (.aload_n 0, 1) := by decide +kernel
theorem dM_library_61 : decode cM_library 61 = .ok (.aload_n 0, 1) := by decide +kernel
theorem dM_library_62 : decode cM_library 62 = .ok (.getfield 577, 3) := by decide +kernel
theorem dM_library_65 : decode cM_library 65 = .ok (.putfield 601, 3) := by decide +kernel
theorem dM_library_68 : decode cM_library 68 = .ok (.iconst 0, 1) := by decide +kernel
theorem dM_library_69 : decode cM_library 69 = .ok (.istore_n 2, 1) := by decide +kernel
theorem dM_library_70 : decode cM_library 70 = .ok (.iload_n 2, 1) := by decide +kernel
theorem dM_library_71 : decode cM_library 71 = .ok (.bipush 8, 2) := by decide +kernel
theorem dM_library_73 : decode cM_library 73 = .ok (.aload_n 0, 1) := by decide +kernel
theorem dM_library_74 : decode cM_library 74 = .ok (.getfield 601, 3) := by decide +kernel
theorem dM_library_77 : decode cM_library 77 = .ok (.imul, 1) := by decide +kernel
theorem dM_library_78 : decode cM_library 78 = .ok (.if_icmp .ge 21, 3) := by decide +kernel
theorem dM_library_81 : decode cM_library 81 = .ok (.aload_n 0, 1) := by decide +kernel
theorem dM_library_82 : decode cM_library 82 = .ok (.getfield 181, 3) := by decide +kernel
theorem dM_library_85 : decode cM_library 85 = .ok (.iload_n 2, 1) := by decide +kernel
theorem dM_library_86 : decode cM_library 86 = .ok (.aload_n 0, 1) := by decide +kernel
theorem dM_library_87 : decode cM_library 87 = .ok (.getfield 175, 3) := by decide +kernel
theorem dM_library_90 : decode cM_library 90 = .ok (.iload_n 2, 1) := by decide +kernel
theorem dM_library_91 : decode cM_library 91 = .ok (.iaload, 1) := by decide +kernel
theorem dM_library_92 : decode cM_library 92 = .ok (.iastore, 1) := by decide +kernel
theorem dM_library_93 : decode cM_library 93 = .ok (.iinc 2 1, 3) := by decide +kernel
theorem dM_library_96 : decode cM_library 96 = .ok (.goto (-26), 3) := by decide +kernel
theorem dM_library_99 : decode cM_library 99 = .ok (.iconst 0, 1) := by decide +kernel
theorem dM_library_100 : decode cM_library 100 = .ok (.istore_n 2, 1) := by decide +kernel
theorem dM_library_101 : decode cM_library 101 = .ok (.iload_n 2, 1) := by decide +kernel
theorem dM_library_102 : decode cM_library 102 = .ok (.iconst 4, 1) := by decide +kernel
theorem dM_library_103 : decode cM_library 103 = .ok (.aload_n 0, 1) := by decide +kernel
theorem dM_library_104 : decode cM_library 104 = .ok (.getfield 601, 3) := by decide +kernel
theorem dM_library_107 : decode cM_library 107 = .ok (.imul, 1) := by decide +kernel
theorem dM_library_108 : decode cM_library 108 = .ok (.if_icmp .ge 21, 3) := by decide +kernel
theorem dM_library_111 : decode cM_library 111 = .ok (.aload_n 0, 1) := by decide +kernel
theorem dM_library_112 : decode cM_library 112 = .ok (.getfield 184, 3) := by decide +kernel
theorem dM_library_115 : decode cM_library 115 = .ok (.iload_n 2, 1) := by decide +kernel
theorem dM_library_116 : decode cM_library 116 = .ok (.aload_n 0, 1) := by decide +kernel
theorem dM_library_117 : decode cM_library 117 = .ok (.getfield 178, 3) := by decide +kernel
theorem dM_library_120 : decode cM_library 120 = .ok (.iload_n 2, 1) := by decide +kernel
theorem dM_library_121 : decode cM_library 121 = .ok (.iaload, 1) := by decide +kernel
theorem dM_library_122 : decode cM_library 122 = .ok (.iastore, 1) := by decide +kernel
theorem dM_library_123 : decode cM_library 123 = .ok (.iinc 2 1, 3) := by decide +kernel
theorem dM_library_126 : decode cM_library 126 = .ok (.goto (-25), 3) := by decide +kernel
theorem dM_library_129 : decode cM_library 129 = .ok (.iconst 0, 1) := by decide +kernel
theorem dM_library_130 : decode cM_library 130 = .ok (.ireturn, 1) := by decide +kernel
theorem wv_2672 : Cond.code (⟨"CellForgeModel", "readLibrary", "()V"⟩ : MethodName) prog_14_method_102_code 6 (Option.none : Option Jvm.ClassFile.FieldType) ∈ cfB := cf_in 2672 (by decide +kernel) rfl
theorem wv_2669 : Cond.methodLink "CellForgeModel" 595 (⟨"CellForgeModel", "readLibrary", "()V"⟩ : MethodName) ∈ cfB := cf_in 2669 (by decide +kernel) rfl
theorem wv_2671 : Cond.instanceMethod (⟨"CellForgeModel", "readLibrary", "()V"⟩ : MethodName) ∈ cfB := cf_in 2671 (by decide +kernel) rfl
theorem wv_133 : Cond.selects "CellForgeModel" (⟨"CellForgeModel", "readLibrary", "()V"⟩ : MethodName) (⟨"CellForgeModel", "readLibrary", "()V"⟩ : MethodName) ∈ cfB := cf_in 133 (by decide +kernel) rfl
set_option maxHeartbeats 4000000 in
set_option maxRecDepth 100000 in
/-- rewind -/
theorem kTx_rewind (l : Launch) (D : va_G) (K : Nat → ClassId) (sz : Nat) (h1 : Nat) (gs : List Value) (hgsl : gs.length = 7) : Met l yTx_rewind (Cond.code yTx_rewind cTx_rewind 1 (Option.none : Option Jvm.ClassFile.FieldType) :: cfB) ({ frames := 0, cells := 0, slots := 0, locals := 0 }) (va_Pc [.ref h1] (cf_Pre D K sz [(h1, .inr (1, gs))])) (va_Qv (fun (_ : Unit) => True) (fun (_ : Unit) t => cf_At D (va_A [(h1, .inr (1, gs))] sz) [(h1, .inr (1, ((gs.set 6 (.int 0)).set 4 (.int (-1)))))] t) (va_A [(h1, .inr (1, gs))] sz)) 0 0 (va_A [(h1, .inr (1, gs))] sz) := by
  refine cf_ofW (y := yTx_rewind) (As := [.ref h1]) (WS := [(h1, .inr (1, gs))]) (maxL := 1) (fun A => (va_Qv (fun (_ : Unit) => True) (fun (_ : Unit) t => cf_At D A [(h1, .inr (1, ((gs.set 6 (.int 0)).set 4 (.int (-1)))))] t) A)) (by decide) (Nat.le_of_ble_eq_true rfl) ?_
  intro p e s m below meth c A ls En hsz hA hP hD hE hS hl
  obtain ⟨hx, hb, hr, hts, hown, hlocks, hin, hml⟩ := En
  have hK := hE.k
  have hl : lv_has ls 1 [(0, .ref h1)] := hl
  refine lv_aload_n hx hb dTx_rewind_0 rfl (lv_at hl 0 rfl) ?_
  refine lv_iconst (v := 0) hx hb dTx_rewind_1 (by decide) ?_
  refine va_put (D := D) (ci := 1) (v := .int 0) (ty := .int) (C := RTx) (T := TTx) (N := 7) hx hb hts inTx tyTx tyokTx nmTx hown hK hP hD hS 0 rfl rfl 6 (by decide) (hts _ wv_216) (fun _ h9 => h9) rfl (by decide +kernel) rfl rfl (by rw [hgsl]; decide) dTx_rewind_2 (fun H locs hP hD hS => ?_)
  have hP : va_P D vwCl [(h1, .inr (1, (gs.set 6 (.int 0))))] H := hP
  have hD : va_D A [(h1, .inr (1, (gs.set 6 (.int 0))))] := hD
  refine lv_aload_n hx hb dTx_rewind_5 rfl (lv_at hl 0 rfl) ?_
  refine lv_iconst (v := (-1)) hx hb dTx_rewind_6 (by decide) ?_
  refine va_put (D := D) (ci := 1) (v := .int (-1)) (ty := .int) (C := RTx) (T := TTx) (N := 7) hx hb hts inTx tyTx tyokTx nmTx hown hK hP hD hS 0 rfl rfl 4 (by decide) (hts _ wv_211) (fun _ h9 => h9) rfl (by decide +kernel) rfl rfl (by rw [(List.length_set.trans hgsl)]; decide) dTx_rewind_7 (fun H locs hP hD hS => ?_)
  have hP : va_P D vwCl [(h1, .inr (1, ((gs.set 6 (.int 0)).set 4 (.int (-1)))))] H := hP
  have hD : va_D A [(h1, .inr (1, ((gs.set 6 (.int 0)).set 4 (.int (-1)))))] := hD
  exact cf_vret hx hb hr hlocks () trivial hP hD hS [0] rfl (by decide +kernel) (Nat.le_of_ble_eq_true rfl) (Nat.le_of_ble_eq_true rfl) dTx_rewind_10
set_option maxHeartbeats 4000000 in
set_option maxRecDepth 100000 in
/-- splitLine -/
theorem kTx_splitLine0 (l : Launch) (D : va_G) (K : Nat → ClassId) (sz : Nat) (h1 : Nat) (gs : List Value) (hgsl : gs.length = 7) (hgs_size : gs[3]? = some (.int 0)) (hgs_next : gs[6]? = some (.int 0)) : Met l yTx_splitLine (Cond.code yTx_splitLine cTx_splitLine 5 (Option.none : Option Jvm.ClassFile.FieldType) :: cfB) ({ frames := 0, cells := 0, slots := 0, locals := 0 }) (va_Pc [.ref h1] (cf_Pre D K sz [(h1, .inr (1, gs))])) (va_Qv (fun (_ : Unit) => True) (fun (_ : Unit) t => cf_At D (va_A [(h1, .inr (1, gs))] sz) [(h1, .inr (1, ((gs.set 5 (.int 0)).set 6 (.int 1))))] t) (va_A [(h1, .inr (1, gs))] sz)) 0 0 (va_A [(h1, .inr (1, gs))] sz) := by
  refine cf_ofW (y := yTx_splitLine) (As := [.ref h1]) (WS := [(h1, .inr (1, gs))]) (maxL := 5) (fun A => (va_Qv (fun (_ : Unit) => True) (fun (_ : Unit) t => cf_At D A [(h1, .inr (1, ((gs.set 5 (.int 0)).set 6 (.int 1))))] t) A)) (by decide) (Nat.le_of_ble_eq_true rfl) ?_
  intro p e s m below meth c A ls En hsz hA hP hD hE hS hl
  obtain ⟨hx, hb, hr, hts, hown, hlocks, hin, hml⟩ := En
  have hK := hE.k
  have hl : lv_has ls 5 [(0, .ref h1)] := hl
  refine lv_iconst (v := 1) hx hb dTx_splitLine_0 (by decide) ?_
  refine lv_istore_n (lv' := [(1, .int 1), (0, .ref h1)]) hx hb dTx_splitLine_1 rfl hl (by decide) rfl (fun ls hl => ?_)
  refine lv_iconst (v := 0) hx hb dTx_splitLine_2 (by decide) ?_
  refine lv_istore_n (lv' := [(2, .int 0), (1, .int 1), (0, .ref h1)]) hx hb dTx_splitLine_3 rfl hl (by decide) rfl (fun ls hl => ?_)
  refine lv_aload_n hx hb dTx_splitLine_4 rfl (lv_at hl 2 rfl) ?_
  refine va_get (D := D) (ci := 1) (v := .int 0) (C := RTx) (T := TTx) (N := 7) hx hb hts inTx hown hK hP 0 rfl rfl 6 (by decide) (hts _ wv_216) (fun _ h9 => h9) hgs_next dTx_splitLine_5 ?_
  refine lv_istore_n (lv' := [(3, .int 0), (2, .int 0), (1, .int 1), (0, .ref h1)]) hx hb dTx_splitLine_8 rfl hl (by decide) rfl (fun ls hl => ?_)
  refine lv_aload_n hx hb dTx_splitLine_9 rfl (lv_at hl 3 rfl) ?_
  refine lv_iconst (v := 0) hx hb dTx_splitLine_10 (by decide) ?_
  refine va_put (D := D) (ci := 1) (v := .int 0) (ty := .int) (C := RTx) (T := TTx) (N := 7) hx hb hts inTx tyTx tyokTx nmTx hown hK hP hD hS 0 rfl rfl 5 (by decide) (hts _ wv_215) (fun _ h9 => h9) rfl (by decide +kernel) rfl rfl (by rw [hgsl]; decide) dTx_splitLine_11 (fun H locs hP hD hS => ?_)
  have hP : va_P D vwCl [(h1, .inr (1, (gs.set 5 (.int 0))))] H := hP
  have hD : va_D A [(h1, .inr (1, (gs.set 5 (.int 0))))] := hD
  refine lv_iload_n hx hb dTx_splitLine_14 rfl (lv_at hl 0 rfl) ?_
  refine lv_aload_n hx hb dTx_splitLine_15 rfl (lv_at hl 3 rfl) ?_
  refine va_get (D := D) (ci := 1) (v := .int 0) (C := RTx) (T := TTx) (N := 7) hx hb hts inTx hown hK hP 0 rfl rfl 3 (by decide) (hts _ wv_209) (fun _ h9 => h9) (by rw [List.getElem?_set_ne (by decide)]; exact hgs_size) dTx_splitLine_16 ?_
  refine lv_icmp_ge (tgt := 142) hx hb dTx_splitLine_19 (by decide) (fun _ => ?_) (fun c_1 => absurd (by decide) c_1)
  refine lv_aload_n hx hb dTx_splitLine_142 rfl (lv_at hl 3 rfl) ?_
  refine lv_iload_n hx hb dTx_splitLine_143 rfl (lv_at hl 0 rfl) ?_
  refine lv_iconst (v := 1) hx hb dTx_splitLine_144 (by decide) ?_
  refine lv_iadd hx hb dTx_splitLine_145 ?_
  refine lv_topi (fun x_2 ex_2 => ?_)
  obtain rfl : x_2 = 1 := ex_2.trans (by decide +kernel)
  refine va_put (D := D) (ci := 1) (v := .int 1) (ty := .int) (C := RTx) (T := TTx) (N := 7) hx hb hts inTx tyTx tyokTx nmTx hown hK hP hD hS 0 rfl rfl 6 (by decide) (hts _ wv_216) (fun _ h9 => h9) rfl (by decide +kernel) rfl rfl (by rw [(List.length_set.trans hgsl)]; decide) dTx_splitLine_146 (fun H locs hP hD hS => ?_)
  have hP : va_P D vwCl [(h1, .inr (1, ((gs.set 5 (.int 0)).set 6 (.int 1))))] H := hP
  have hD : va_D A [(h1, .inr (1, ((gs.set 5 (.int 0)).set 6 (.int 1))))] := hD
  exact cf_vret hx hb hr hlocks () trivial hP hD hS [0] rfl (by decide +kernel) (Nat.le_of_ble_eq_true rfl) (Nat.le_of_ble_eq_true rfl) dTx_splitLine_149
set_option maxHeartbeats 4000000 in
set_option maxRecDepth 100000 in
/-- toNextLine -/
theorem kTx_toNextLine0 (l : Launch) (D : va_G) (K : Nat → ClassId) (sz : Nat) (h1 : Nat) (gs : List Value) (hgsl : gs.length = 7) (hgs_size : gs[3]? = some (.int 0)) (hgs_next : gs[6]? = some (.int 0)) (hgs_number : gs[4]? = some (.int (-1))) : Met l yTx_toNextLine (Cond.code yTx_toNextLine cTx_toNextLine 2 (Option.some Jvm.ClassFile.FieldType.boolean) :: cfB) ({ frames := 1, cells := 0, slots := 0, locals := 24 }) (va_Pc [.ref h1] (cf_Pre D K sz [(h1, .inr (1, gs))])) (va_Qi (fun (r : Int32) (_ : Unit) => r = 0) (fun (_ : Unit) t => cf_At D (va_A [(h1, .inr (1, gs))] sz) [(h1, .inr (1, ((((gs.set 4 (.int 0)).set 5 (.int 0)).set 6 (.int 1)).set 4 (.int 1))))] t) (va_A [(h1, .inr (1, gs))] sz)) 0 0 (va_A [(h1, .inr (1, gs))] sz) := by
  refine cf_ofW (y := yTx_toNextLine) (As := [.ref h1]) (WS := [(h1, .inr (1, gs))]) (maxL := 2) (fun A => (va_Qi (fun (r : Int32) (_ : Unit) => r = 0) (fun (_ : Unit) t => cf_At D A [(h1, .inr (1, ((((gs.set 4 (.int 0)).set 5 (.int 0)).set 6 (.int 1)).set 4 (.int 1))))] t) A)) (by decide) (Nat.le_of_ble_eq_true rfl) ?_
  intro p e s m below meth c A ls En hsz hA hP hD hE hS hl
  obtain ⟨hx, hb, hr, hts, hown, hlocks, hin, hml⟩ := En
  have hK := hE.k
  have hl : lv_has ls 2 [(0, .ref h1)] := hl
  refine lv_iconst (v := 0) hx hb dTx_toNextLine_0 (by decide) ?_
  refine lv_istore_n (lv' := [(1, .int 0), (0, .ref h1)]) hx hb dTx_toNextLine_1 rfl hl (by decide) rfl (fun ls hl => ?_)
  refine lv_iload_n hx hb dTx_toNextLine_2 rfl (lv_at hl 0 rfl) ?_
  refine lv_sipush (v := 1600) hx hb dTx_toNextLine_3 (by decide) ?_
  refine lv_icmp_gt (tgt := 49) hx hb dTx_toNextLine_6 (by decide) (fun c_1 => absurd c_1 (by decide)) (fun _ => ?_)
  refine lv_aload_n hx hb dTx_toNextLine_9 rfl (lv_at hl 1 rfl) ?_
  refine va_get (D := D) (ci := 1) (v := .int 0) (C := RTx) (T := TTx) (N := 7) hx hb hts inTx hown hK hP 0 rfl rfl 6 (by decide) (hts _ wv_216) (fun _ h9 => h9) hgs_next dTx_toNextLine_10 ?_
  refine lv_aload_n hx hb dTx_toNextLine_13 rfl (lv_at hl 1 rfl) ?_
  refine va_get (D := D) (ci := 1) (v := .int 0) (C := RTx) (T := TTx) (N := 7) hx hb hts inTx hown hK hP 0 rfl rfl 3 (by decide) (hts _ wv_209) (fun _ h9 => h9) hgs_size dTx_toNextLine_14 ?_
  refine lv_icmp_gt (tgt := 49) hx hb dTx_toNextLine_17 (by decide) (fun c_2 => absurd c_2 (by decide)) (fun _ => ?_)
  refine lv_aload_n hx hb dTx_toNextLine_20 rfl (lv_at hl 1 rfl) ?_
  refine lv_dup hx hb dTx_toNextLine_21 rfl ?_
  refine va_get (D := D) (ci := 1) (v := .int (-1)) (C := RTx) (T := TTx) (N := 7) hx hb hts inTx hown hK hP 0 rfl rfl 4 (by decide) (hts _ wv_211) (fun _ h9 => h9) hgs_number dTx_toNextLine_22 ?_
  refine lv_iconst (v := 1) hx hb dTx_toNextLine_25 (by decide) ?_
  refine lv_iadd hx hb dTx_toNextLine_26 ?_
  refine lv_topi (fun x_3 ex_3 => ?_)
  obtain rfl : x_3 = 0 := ex_3.trans (by decide +kernel)
  refine va_put (D := D) (ci := 1) (v := .int 0) (ty := .int) (C := RTx) (T := TTx) (N := 7) hx hb hts inTx tyTx tyokTx nmTx hown hK hP hD hS 0 rfl rfl 4 (by decide) (hts _ wv_211) (fun _ h9 => h9) rfl (by decide +kernel) rfl rfl (by rw [hgsl]; decide) dTx_toNextLine_27 (fun H locs hP hD hS => ?_)
  have hP : va_P D vwCl [(h1, .inr (1, (gs.set 4 (.int 0))))] H := hP
  have hD : va_D A [(h1, .inr (1, (gs.set 4 (.int 0))))] := hD
  refine lv_aload_n hx hb dTx_toNextLine_30 rfl (lv_at hl 1 rfl) ?_
  refine cf_callv (wc := [(h1, .inr (1, (gs.set 4 (.int 0))))]) (wr := []) (va_runV (As := []) (rest := []) ⟨hx, hb, hml, hown, hts⟩ (kTx_splitLine0 l D K _ h1 (gs.set 4 (.int 0)) (List.length_set.trans hgsl) (by rw [List.getElem?_set_ne (by decide)]; exact hgs_size) (by rw [List.getElem?_set_ne (by decide)]; exact hgs_next)) (cwV 0 hts (cf_GV wv_739 wv_741 wv_0 wv_158 wv_742) rfl rfl rfl (by decide +kernel) ⟨Nat.le_of_ble_eq_true rfl, Nat.le_of_ble_eq_true rfl⟩) (cf_preV (wc := [(h1, .inr (1, (gs.set 4 (.int 0))))]) hE hP hD hS hA rfl 0 rfl [0] rfl (by decide +kernel)) rfl rfl hl.1 rfl (lv_room (Nat.le_of_ble_eq_true rfl)) dTx_toNextLine_31 ⟨Nat.le_of_ble_eq_true rfl, Nat.le_of_ble_eq_true rfl⟩) hP hD hS hA [0] [] rfl rfl (by decide +kernel) (by decide +kernel) (fun _ H locs hw_4 hP hD hS => ?_)
  have hP : va_P D vwCl [(h1, .inr (1, (((gs.set 4 (.int 0)).set 5 (.int 0)).set 6 (.int 1))))] H := hP
  have hD : va_D A [(h1, .inr (1, (((gs.set 4 (.int 0)).set 5 (.int 0)).set 6 (.int 1))))] := hD
  refine lv_aload_n hx hb dTx_toNextLine_34 rfl (lv_at hl 1 rfl) ?_
  refine va_get (D := D) (ci := 1) (v := .int 0) (C := RTx) (T := TTx) (N := 7) hx hb hts inTx hown hK hP 0 rfl rfl 5 (by decide) (hts _ wv_215) (fun _ h9 => h9) (by rw [List.getElem?_set_ne (by decide)]; exact (List.getElem?_set_self (by rw [(List.length_set.trans hgsl)]; decide))) dTx_toNextLine_35 ?_
  refine lv_if_le (tgt := 43) hx hb dTx_toNextLine_38 (by decide) (fun _ => ?_) (fun c_5 => absurd (by decide) c_5)
  refine lv_iinc (v := 1) (lv' := [(1, .int 1), (0, .ref h1)]) hx hb dTx_toNextLine_43 hl (k := 0) rfl (by decide) (by decide) rfl (fun ls hl => ?_)
  refine lv_goto (tgt := 2) hx hb dTx_toNextLine_46 (by decide) ?_
  refine lv_iload_n hx hb dTx_toNextLine_2 rfl (lv_at hl 0 rfl) ?_
  refine lv_sipush (v := 1600) hx hb dTx_toNextLine_3 (by decide) ?_
  refine lv_icmp_gt (tgt := 49) hx hb dTx_toNextLine_6 (by decide) (fun c_6 => absurd c_6 (by decide)) (fun _ => ?_)
  refine lv_aload_n hx hb dTx_toNextLine_9 rfl (lv_at hl 1 rfl) ?_
  refine va_get (D := D) (ci := 1) (v := .int 1) (C := RTx) (T := TTx) (N := 7) hx hb hts inTx hown hK hP 0 rfl rfl 6 (by decide) (hts _ wv_216) (fun _ h9 => h9) (List.getElem?_set_self (by rw [(List.length_set.trans (List.length_set.trans hgsl))]; decide)) dTx_toNextLine_10 ?_
  refine lv_aload_n hx hb dTx_toNextLine_13 rfl (lv_at hl 1 rfl) ?_
  refine va_get (D := D) (ci := 1) (v := .int 0) (C := RTx) (T := TTx) (N := 7) hx hb hts inTx hown hK hP 0 rfl rfl 3 (by decide) (hts _ wv_209) (fun _ h9 => h9) (by rw [List.getElem?_set_ne (by decide)]; exact (by rw [List.getElem?_set_ne (by decide)]; exact (by rw [List.getElem?_set_ne (by decide)]; exact hgs_size))) dTx_toNextLine_14 ?_
  refine lv_icmp_gt (tgt := 49) hx hb dTx_toNextLine_17 (by decide) (fun _ => ?_) (fun c_7 => absurd (by decide) c_7)
  refine lv_aload_n hx hb dTx_toNextLine_49 rfl (lv_at hl 1 rfl) ?_
  refine lv_dup hx hb dTx_toNextLine_50 rfl ?_
  refine va_get (D := D) (ci := 1) (v := .int 0) (C := RTx) (T := TTx) (N := 7) hx hb hts inTx hown hK hP 0 rfl rfl 4 (by decide) (hts _ wv_211) (fun _ h9 => h9) (by rw [List.getElem?_set_ne (by decide)]; exact (by rw [List.getElem?_set_ne (by decide)]; exact (List.getElem?_set_self (by rw [hgsl]; decide)))) dTx_toNextLine_51 ?_
  refine lv_iconst (v := 1) hx hb dTx_toNextLine_54 (by decide) ?_
  refine lv_iadd hx hb dTx_toNextLine_55 ?_
  refine lv_topi (fun x_8 ex_8 => ?_)
  obtain rfl : x_8 = 1 := ex_8.trans (by decide +kernel)
  refine va_put (D := D) (ci := 1) (v := .int 1) (ty := .int) (C := RTx) (T := TTx) (N := 7) hx hb hts inTx tyTx tyokTx nmTx hown hK hP hD hS 0 rfl rfl 4 (by decide) (hts _ wv_211) (fun _ h9 => h9) rfl (by decide +kernel) rfl rfl (by rw [(List.length_set.trans (List.length_set.trans (List.length_set.trans hgsl)))]; decide) dTx_toNextLine_56 (fun H locs hP hD hS => ?_)
  have hP : va_P D vwCl [(h1, .inr (1, ((((gs.set 4 (.int 0)).set 5 (.int 0)).set 6 (.int 1)).set 4 (.int 1))))] H := hP
  have hD : va_D A [(h1, .inr (1, ((((gs.set 4 (.int 0)).set 5 (.int 0)).set 6 (.int 1)).set 4 (.int 1))))] := hD
  refine lv_iconst (v := 0) hx hb dTx_toNextLine_59 (by decide) ?_
  exact cf_zret hx hb hr rfl hlocks () rfl hP hD hS [0] rfl (by decide +kernel) (Nat.le_of_ble_eq_true rfl) (Nat.le_of_ble_eq_true rfl) dTx_toNextLine_60
set_option maxHeartbeats 4000000 in
set_option maxRecDepth 100000 in
/-- scanLines -/
theorem kNl_scanLines0 (l : Launch) (D : va_G) (K : Nat → ClassId) (sz : Nat) (h2 : Nat) (ns : List Value) (h1 : Nat) (gs : List Value) (hnsl : ns.length = 17) (hgsl : gs.length = 7) (hgs_size : gs[3]? = some (.int 0)) : Met l yNl_scanLines (Cond.code yNl_scanLines cNl_scanLines 5 (Option.some Jvm.ClassFile.FieldType.int) :: cfB) ({ frames := 2, cells := 0, slots := 0, locals := 45 }) (va_Pc [.ref h2, .ref h1] (cf_Pre D K sz [(h2, .inr (2, ns)), (h1, .inr (1, gs))])) (va_Qi (fun (r : Int32) (_ : Unit) => r = 1) (fun (_ : Unit) t => cf_At D (va_A [(h2, .inr (2, ns)), (h1, .inr (1, gs))] sz) [(h2, .inr (2, (((ns.set 0 (.int 0)).set 1 (.int 0)).set 6 (.int 0)))), (h1, .inr (1, ((((((gs.set 6 (.int 0)).set 4 (.int (-1))).set 4 (.int 0)).set 5 (.int 0)).set 6 (.int 1)).set 4 (.int 1))))] t) (va_A [(h2, .inr (2, ns)), (h1, .inr (1, gs))] sz)) 0 0 (va_A [(h2, .inr (2, ns)), (h1, .inr (1, gs))] sz) := by
  refine cf_ofW (y := yNl_scanLines) (As := [.ref h2, .ref h1]) (WS := [(h2, .inr (2, ns)), (h1, .inr (1, gs))]) (maxL := 5) (fun A => (va_Qi (fun (r : Int32) (_ : Unit) => r = 1) (fun (_ : Unit) t => cf_At D A [(h2, .inr (2, (((ns.set 0 (.int 0)).set 1 (.int 0)).set 6 (.int 0)))), (h1, .inr (1, ((((((gs.set 6 (.int 0)).set 4 (.int (-1))).set 4 (.int 0)).set 5 (.int 0)).set 6 (.int 1)).set 4 (.int 1))))] t) A)) (by decide) (Nat.le_of_ble_eq_true rfl) ?_
  intro p e s m below meth c A ls En hsz hA hP hD hE hS hl
  obtain ⟨hx, hb, hr, hts, hown, hlocks, hin, hml⟩ := En
  have hK := hE.k
  have hl : lv_has ls 5 [(0, .ref h2), (1, .ref h1)] := hl
  refine lv_aload_n hx hb dNl_scanLines_0 rfl (lv_at hl 0 rfl) ?_
  refine lv_iconst (v := 0) hx hb dNl_scanLines_1 (by decide) ?_
  refine va_put (D := D) (ci := 2) (v := .int 0) (ty := .int) (C := RNl) (T := TNl) (N := 17) hx hb hts inNl tyNl tyokNl nmNl hown hK hP hD hS 0 rfl rfl 0 (by decide) (hts _ wv_483) (fun _ h9 => h9) rfl (by decide +kernel) rfl rfl (by rw [hnsl]; decide) dNl_scanLines_2 (fun H locs hP hD hS => ?_)
  have hP : va_P D vwCl [(h2, .inr (2, (ns.set 0 (.int 0)))), (h1, .inr (1, gs))] H := hP
  have hD : va_D A [(h2, .inr (2, (ns.set 0 (.int 0)))), (h1, .inr (1, gs))] := hD
  refine lv_aload_n hx hb dNl_scanLines_5 rfl (lv_at hl 0 rfl) ?_
  refine lv_iconst (v := 0) hx hb dNl_scanLines_6 (by decide) ?_
  refine va_put (D := D) (ci := 2) (v := .int 0) (ty := .int) (C := RNl) (T := TNl) (N := 17) hx hb hts inNl tyNl tyokNl nmNl hown hK hP hD hS 0 rfl rfl 1 (by decide) (hts _ wv_485) (fun _ h9 => h9) rfl (by decide +kernel) rfl rfl (by rw [(List.length_set.trans hnsl)]; decide) dNl_scanLines_7 (fun H locs hP hD hS => ?_)
  have hP : va_P D vwCl [(h2, .inr (2, ((ns.set 0 (.int 0)).set 1 (.int 0)))), (h1, .inr (1, gs))] H := hP
  have hD : va_D A [(h2, .inr (2, ((ns.set 0 (.int 0)).set 1 (.int 0)))), (h1, .inr (1, gs))] := hD
  refine lv_aload_n hx hb dNl_scanLines_10 rfl (lv_at hl 0 rfl) ?_
  refine lv_iconst (v := 0) hx hb dNl_scanLines_11 (by decide) ?_
  refine va_put (D := D) (ci := 2) (v := .int 0) (ty := .int) (C := RNl) (T := TNl) (N := 17) hx hb hts inNl tyNl tyokNl nmNl hown hK hP hD hS 0 rfl rfl 6 (by decide) (hts _ wv_494) (fun _ h9 => h9) rfl (by decide +kernel) rfl rfl (by rw [(List.length_set.trans (List.length_set.trans hnsl))]; decide) dNl_scanLines_12 (fun H locs hP hD hS => ?_)
  have hP : va_P D vwCl [(h2, .inr (2, (((ns.set 0 (.int 0)).set 1 (.int 0)).set 6 (.int 0)))), (h1, .inr (1, gs))] H := hP
  have hD : va_D A [(h2, .inr (2, (((ns.set 0 (.int 0)).set 1 (.int 0)).set 6 (.int 0)))), (h1, .inr (1, gs))] := hD
  refine lv_iconst (v := 0) hx hb dNl_scanLines_15 (by decide) ?_
  refine lv_istore_n (lv' := [(2, .int 0), (0, .ref h2), (1, .ref h1)]) hx hb dNl_scanLines_16 rfl hl (by decide) rfl (fun ls hl => ?_)
  refine lv_aload_n hx hb dNl_scanLines_17 rfl (lv_at hl 2 rfl) ?_
  refine cf_callv (wc := [(h1, .inr (1, gs))]) (wr := [(h2, .inr (2, (((ns.set 0 (.int 0)).set 1 (.int 0)).set 6 (.int 0))))]) (va_runV (As := []) (rest := []) ⟨hx, hb, hml, hown, hts⟩ (kTx_rewind l D K _ h1 gs hgsl) (cwV 0 hts (cf_GV wv_973 wv_732 wv_733 wv_158 wv_734) rfl rfl rfl (by decide +kernel) ⟨Nat.le_of_ble_eq_true rfl, Nat.le_of_ble_eq_true rfl⟩) (cf_preV (wc := [(h1, .inr (1, gs))]) hE hP hD hS hA rfl 1 rfl [1] rfl (by decide +kernel)) rfl rfl hl.1 rfl (lv_room (Nat.le_of_ble_eq_true rfl)) dNl_scanLines_18 ⟨Nat.le_of_ble_eq_true rfl, Nat.le_of_ble_eq_true rfl⟩) hP hD hS hA [1] [0] rfl rfl (by decide +kernel) (by decide +kernel) (fun _ H locs hw_1 hP hD hS => ?_)
  have hP : va_P D vwCl [(h2, .inr (2, (((ns.set 0 (.int 0)).set 1 (.int 0)).set 6 (.int 0)))), (h1, .inr (1, ((gs.set 6 (.int 0)).set 4 (.int (-1)))))] H := hP
  have hD : va_D A [(h2, .inr (2, (((ns.set 0 (.int 0)).set 1 (.int 0)).set 6 (.int 0)))), (h1, .inr (1, ((gs.set 6 (.int 0)).set 4 (.int (-1)))))] := hD
  refine lv_iconst (v := 0) hx hb dNl_scanLines_21 (by decide) ?_
  refine lv_istore_n (lv' := [(3, .int 0), (2, .int 0), (0, .ref h2), (1, .ref h1)]) hx hb dNl_scanLines_22 rfl hl (by decide) rfl (fun ls hl => ?_)
  refine lv_iload_n hx hb dNl_scanLines_23 rfl (lv_at hl 0 rfl) ?_
  refine lv_sipush (v := 1600) hx hb dNl_scanLines_24 (by decide) ?_
  refine lv_icmp_gt (tgt := 77) hx hb dNl_scanLines_27 (by decide) (fun c_2 => absurd c_2 (by decide)) (fun _ => ?_)
  refine lv_aload_n hx hb dNl_scanLines_30 rfl (lv_at hl 3 rfl) ?_
  refine cf_calli (wc := [(h1, .inr (1, ((gs.set 6 (.int 0)).set 4 (.int (-1)))))]) (wr := [(h2, .inr (2, (((ns.set 0 (.int 0)).set 1 (.int 0)).set 6 (.int 0))))]) (va_runV (As := []) (rest := []) ⟨hx, hb, hml, hown, hts⟩ (kTx_toNextLine0 l D K _ h1 ((gs.set 6 (.int 0)).set 4 (.int (-1))) (List.length_set.trans (List.length_set.trans hgsl)) (by rw [List.getElem?_set_ne (by decide)]; exact (by rw [List.getElem?_set_ne (by decide)]; exact hgs_size)) (by rw [List.getElem?_set_ne (by decide)]; exact (List.getElem?_set_self (by rw [hgsl]; decide))) (List.getElem?_set_self (by rw [(List.length_set.trans hgsl)]; decide))) (cwV 0 hts (cf_GV wv_974 wv_736 wv_737 wv_158 wv_738) rfl rfl rfl (by decide +kernel) ⟨Nat.le_of_ble_eq_true rfl, Nat.le_of_ble_eq_true rfl⟩) (cf_preV (wc := [(h1, .inr (1, ((gs.set 6 (.int 0)).set 4 (.int (-1)))))]) hE hP hD hS hA rfl 1 rfl [1] rfl (by decide +kernel)) rfl rfl hl.1 rfl (lv_room (Nat.le_of_ble_eq_true rfl)) dNl_scanLines_31 ⟨Nat.le_of_ble_eq_true rfl, Nat.le_of_ble_eq_true rfl⟩) hP hD hS hA [1] [0] rfl rfl (by decide +kernel) (by decide +kernel) (fun r_3 _ H locs hw_4 hP hD hS => ?_)
  have hP : va_P D vwCl [(h2, .inr (2, (((ns.set 0 (.int 0)).set 1 (.int 0)).set 6 (.int 0)))), (h1, .inr (1, ((((((gs.set 6 (.int 0)).set 4 (.int (-1))).set 4 (.int 0)).set 5 (.int 0)).set 6 (.int 1)).set 4 (.int 1))))] H := hP
  have hD : va_D A [(h2, .inr (2, (((ns.set 0 (.int 0)).set 1 (.int 0)).set 6 (.int 0)))), (h1, .inr (1, ((((((gs.set 6 (.int 0)).set 4 (.int (-1))).set 4 (.int 0)).set 5 (.int 0)).set 6 (.int 1)).set 4 (.int 1))))] := hD
  subst hw_4
  refine lv_if_eq (tgt := 77) hx hb dNl_scanLines_34 (by decide) (fun _ => ?_) (fun c_5 => absurd (by decide) c_5)
  refine lv_iload_n hx hb dNl_scanLines_77 rfl (lv_at hl 1 rfl) ?_
  refine lv_iconst (v := 3) hx hb dNl_scanLines_78 (by decide) ?_
  refine lv_icmp_ne (tgt := 86) hx hb dNl_scanLines_79 (by decide) (fun _ => ?_) (fun c_6 => absurd c_6 (by decide))
  refine lv_iconst (v := 1) hx hb dNl_scanLines_86 (by decide) ?_
  exact cf_iret hx hb hr hlocks () rfl hP hD hS [0, 1] rfl (by decide +kernel) (Nat.le_of_ble_eq_true rfl) (Nat.le_of_ble_eq_true rfl) dNl_scanLines_87
set_option maxHeartbeats 4000000 in
set_option maxRecDepth 100000 in
/-- scan -/
theorem kNl_scan0 (l : Launch) (D : va_G) (K : Nat → ClassId) (sz : Nat) (h2 : Nat) (ns : List Value) (h1 : Nat) (gs : List Value) (hnsl : ns.length = 17) (hgsl : gs.length = 7) (hgs_size : gs[3]? = some (.int 0)) : Met l yNl_scan (Cond.code yNl_scan cNl_scan 3 (Option.some Jvm.ClassFile.FieldType.int) :: cfB) ({ frames := 3, cells := 0, slots := 0, locals := 69 }) (va_Pc [.ref h2, .ref h1] (cf_Pre D K sz [(h2, .inr (2, ns)), (h1, .inr (1, gs))])) (va_Qi (fun (r : Int32) (_ : Unit) => r = 1) (fun (_ : Unit) t => cf_At D (va_A [(h2, .inr (2, ns)), (h1, .inr (1, gs))] sz) [(h2, .inr (2, ((((ns.set 0 (.int 0)).set 1 (.int 0)).set 6 (.int 0)).set 2 (.int 1)))), (h1, .inr (1, ((((((gs.set 6 (.int 0)).set 4 (.int (-1))).set 4 (.int 0)).set 5 (.int 0)).set 6 (.int 1)).set 4 (.int 1))))] t) (va_A [(h2, .inr (2, ns)), (h1, .inr (1, gs))] sz)) 0 0 (va_A [(h2, .inr (2, ns)), (h1, .inr (1, gs))] sz) := by
  refine cf_ofW (y := yNl_scan) (As := [.ref h2, .ref h1]) (WS := [(h2, .inr (2, ns)), (h1, .inr (1, gs))]) (maxL := 3) (fun A => (va_Qi (fun (r : Int32) (_ : Unit) => r = 1) (fun (_ : Unit) t => cf_At D A [(h2, .inr (2, ((((ns.set 0 (.int 0)).set 1 (.int 0)).set 6 (.int 0)).set 2 (.int 1)))), (h1, .inr (1, ((((((gs.set 6 (.int 0)).set 4 (.int (-1))).set 4 (.int 0)).set 5 (.int 0)).set 6 (.int 1)).set 4 (.int 1))))] t) A)) (by decide) (Nat.le_of_ble_eq_true rfl) ?_
  intro p e s m below meth c A ls En hsz hA hP hD hE hS hl
  obtain ⟨hx, hb, hr, hts, hown, hlocks, hin, hml⟩ := En
  have hK := hE.k
  have hl : lv_has ls 3 [(0, .ref h2), (1, .ref h1)] := hl
  refine lv_aload_n hx hb dNl_scan_0 rfl (lv_at hl 0 rfl) ?_
  refine lv_aload_n hx hb dNl_scan_1 rfl (lv_at hl 1 rfl) ?_
  refine cf_calli (wc := [(h2, .inr (2, ns)), (h1, .inr (1, gs))]) (wr := []) (va_runV (As := [.ref h1]) (rest := []) ⟨hx, hb, hml, hown, hts⟩ (kNl_scanLines0 l D K _ h2 ns h1 gs hnsl hgsl hgs_size) (cwV 1 hts (cf_GV wv_969 wv_971 wv_8 wv_170 wv_972) rfl rfl rfl (by decide +kernel) ⟨Nat.le_of_ble_eq_true rfl, Nat.le_of_ble_eq_true rfl⟩) (cf_preV (wc := [(h2, .inr (2, ns)), (h1, .inr (1, gs))]) hE hP hD hS hA rfl 0 rfl [0, 1] rfl (by decide +kernel)) rfl rfl hl.1 rfl (lv_room (Nat.le_of_ble_eq_true rfl)) dNl_scan_2 ⟨Nat.le_of_ble_eq_true rfl, Nat.le_of_ble_eq_true rfl⟩) hP hD hS hA [0, 1] [] rfl rfl (by decide +kernel) (by decide +kernel) (fun r_1 _ H locs hw_2 hP hD hS => ?_)
  have hP : va_P D vwCl [(h2, .inr (2, (((ns.set 0 (.int 0)).set 1 (.int 0)).set 6 (.int 0)))), (h1, .inr (1, ((((((gs.set 6 (.int 0)).set 4 (.int (-1))).set 4 (.int 0)).set 5 (.int 0)).set 6 (.int 1)).set 4 (.int 1))))] H := hP
  have hD : va_D A [(h2, .inr (2, (((ns.set 0 (.int 0)).set 1 (.int 0)).set 6 (.int 0)))), (h1, .inr (1, ((((((gs.set 6 (.int 0)).set 4 (.int (-1))).set 4 (.int 0)).set 5 (.int 0)).set 6 (.int 1)).set 4 (.int 1))))] := hD
  subst hw_2
  refine lv_istore_n (lv' := [(2, .int 1), (0, .ref h2), (1, .ref h1)]) hx hb dNl_scan_5 rfl hl (by decide) rfl (fun ls hl => ?_)
  refine lv_iload_n hx hb dNl_scan_6 rfl (lv_at hl 0 rfl) ?_
  refine lv_if_eq (tgt := 20) hx hb dNl_scan_7 (by decide) (fun c_3 => absurd c_3 (by decide)) (fun _ => ?_)
  refine lv_aload_n hx hb dNl_scan_10 rfl (lv_at hl 1 rfl) ?_
  refine lv_aload_n hx hb dNl_scan_11 rfl (lv_at hl 2 rfl) ?_
  refine va_get (D := D) (ci := 1) (v := .int 1) (C := RTx) (T := TTx) (N := 7) hx hb hts inTx hown hK hP 1 rfl rfl 4 (by decide) (hts _ wv_210) (fun _ h9 => h9) (List.getElem?_set_self (by rw [(List.length_set.trans (List.length_set.trans (List.length_set.trans (List.length_set.trans (List.length_set.trans hgsl)))))]; decide)) dNl_scan_12 ?_
  refine va_put (D := D) (ci := 2) (v := .int 1) (ty := .int) (C := RNl) (T := TNl) (N := 17) hx hb hts inNl tyNl tyokNl nmNl hown hK hP hD hS 0 rfl rfl 2 (by decide) (hts _ wv_487) (fun _ h9 => h9) rfl (by decide +kernel) rfl rfl (by rw [(List.length_set.trans (List.length_set.trans (List.length_set.trans hnsl)))]; decide) dNl_scan_15 (fun H locs hP hD hS => ?_)
  have hP : va_P D vwCl [(h2, .inr (2, ((((ns.set 0 (.int 0)).set 1 (.int 0)).set 6 (.int 0)).set 2 (.int 1)))), (h1, .inr (1, ((((((gs.set 6 (.int 0)).set 4 (.int (-1))).set 4 (.int 0)).set 5 (.int 0)).set 6 (.int 1)).set 4 (.int 1))))] H := hP
  have hD : va_D A [(h2, .inr (2, ((((ns.set 0 (.int 0)).set 1 (.int 0)).set 6 (.int 0)).set 2 (.int 1)))), (h1, .inr (1, ((((((gs.set 6 (.int 0)).set 4 (.int (-1))).set 4 (.int 0)).set 5 (.int 0)).set 6 (.int 1)).set 4 (.int 1))))] := hD
  refine lv_iload_n hx hb dNl_scan_18 rfl (lv_at hl 0 rfl) ?_
  exact cf_iret hx hb hr hlocks () rfl hP hD hS [0, 1] rfl (by decide +kernel) (Nat.le_of_ble_eq_true rfl) (Nat.le_of_ble_eq_true rfl) dNl_scan_19
set_option maxHeartbeats 4000000 in
set_option maxRecDepth 100000 in
/-- read -/
theorem kF_read0 (l : Launch) (D : va_G) (K : Nat → ClassId) (sz : Nat) (h0 : Nat) (fs : List Value) (h1 : Nat) (gs : List Value) (h2 : Nat) (ns : List Value) (hfsl : fs.length = 19) (hfs_text : fs[0]? = some (.ref h1)) (hfs_spareNetlist : fs[10]? = some (.ref h2)) (hgsl : gs.length = 7) (hgs_size : gs[3]? = some (.int 0)) (hnsl : ns.length = 17) : Met l yF_read (Cond.code yF_read cF_read 4 (Option.some Jvm.ClassFile.FieldType.int) :: cfB) ({ frames := 4, cells := 0, slots := 0, locals := 91 }) (va_Pc [.ref h0] (cf_Pre D K sz [(h0, .inr (0, fs)), (h1, .inr (1, gs)), (h2, .inr (2, ns))])) (va_Qi (fun (r : Int32) (_ : Unit) => r = 1) (fun (_ : Unit) t => cf_At D (va_A [(h0, .inr (0, fs)), (h1, .inr (1, gs)), (h2, .inr (2, ns))] sz) [(h0, .inr (0, (fs.set 15 (.int 1)))), (h2, .inr (2, ((((ns.set 0 (.int 0)).set 1 (.int 0)).set 6 (.int 0)).set 2 (.int 1)))), (h1, .inr (1, ((((((gs.set 6 (.int 0)).set 4 (.int (-1))).set 4 (.int 0)).set 5 (.int 0)).set 6 (.int 1)).set 4 (.int 1))))] t) (va_A [(h0, .inr (0, fs)), (h1, .inr (1, gs)), (h2, .inr (2, ns))] sz)) 0 0 (va_A [(h0, .inr (0, fs)), (h1, .inr (1, gs)), (h2, .inr (2, ns))] sz) := by
  refine cf_ofW (y := yF_read) (As := [.ref h0]) (WS := [(h0, .inr (0, fs)), (h1, .inr (1, gs)), (h2, .inr (2, ns))]) (maxL := 4) (fun A => (va_Qi (fun (r : Int32) (_ : Unit) => r = 1) (fun (_ : Unit) t => cf_At D A [(h0, .inr (0, (fs.set 15 (.int 1)))), (h2, .inr (2, ((((ns.set 0 (.int 0)).set 1 (.int 0)).set 6 (.int 0)).set 2 (.int 1)))), (h1, .inr (1, ((((((gs.set 6 (.int 0)).set 4 (.int (-1))).set 4 (.int 0)).set 5 (.int 0)).set 6 (.int 1)).set 4 (.int 1))))] t) A)) (by decide) (Nat.le_of_ble_eq_true rfl) ?_
  intro p e s m below meth c A ls En hsz hA hP hD hE hS hl
  obtain ⟨hx, hb, hr, hts, hown, hlocks, hin, hml⟩ := En
  have hK := hE.k
  have hl : lv_has ls 4 [(0, .ref h0)] := hl
  refine lv_aload_n hx hb dF_read_0 rfl (lv_at hl 0 rfl) ?_
  refine va_get (D := D) (ci := 0) (v := .ref h2) (C := RF) (T := TF) (N := 19) hx hb hts inF hown hK hP 0 rfl rfl 10 (by decide) (hts _ wv_671) (fun _ h9 => h9) hfs_spareNetlist dF_read_1 ?_
  refine lv_aload_n hx hb dF_read_4 rfl (lv_at hl 0 rfl) ?_
  refine va_get (D := D) (ci := 0) (v := .ref h1) (C := RF) (T := TF) (N := 19) hx hb hts inF hown hK hP 0 rfl rfl 0 (by decide) (hts _ wv_661) (fun _ h9 => h9) hfs_text dF_read_5 ?_
  refine cf_calli (wc := [(h2, .inr (2, ns)), (h1, .inr (1, gs))]) (wr := [(h0, .inr (0, fs))]) (va_runV (As := [.ref h1]) (rest := []) ⟨hx, hb, hml, hown, hts⟩ (kNl_scan0 l D K _ h2 ns h1 gs hnsl hgsl hgs_size) (cwV 1 hts (cf_GV wv_965 wv_966 wv_967 wv_170 wv_968) rfl rfl rfl (by decide +kernel) ⟨Nat.le_of_ble_eq_true rfl, Nat.le_of_ble_eq_true rfl⟩) (cf_preV (wc := [(h2, .inr (2, ns)), (h1, .inr (1, gs))]) hE hP hD hS hA rfl 2 rfl [2, 1] rfl (by decide +kernel)) rfl rfl hl.1 rfl (lv_room (Nat.le_of_ble_eq_true rfl)) dF_read_8 ⟨Nat.le_of_ble_eq_true rfl, Nat.le_of_ble_eq_true rfl⟩) hP hD hS hA [2, 1] [0] rfl rfl (by decide +kernel) (by decide +kernel) (fun r_1 _ H locs hw_2 hP hD hS => ?_)
  have hP : va_P D vwCl [(h0, .inr (0, fs)), (h2, .inr (2, ((((ns.set 0 (.int 0)).set 1 (.int 0)).set 6 (.int 0)).set 2 (.int 1)))), (h1, .inr (1, ((((((gs.set 6 (.int 0)).set 4 (.int (-1))).set 4 (.int 0)).set 5 (.int 0)).set 6 (.int 1)).set 4 (.int 1))))] H := hP
  have hD : va_D A [(h0, .inr (0, fs)), (h2, .inr (2, ((((ns.set 0 (.int 0)).set 1 (.int 0)).set 6 (.int 0)).set 2 (.int 1)))), (h1, .inr (1, ((((((gs.set 6 (.int 0)).set 4 (.int (-1))).set 4 (.int 0)).set 5 (.int 0)).set 6 (.int 1)).set 4 (.int 1))))] := hD
  subst hw_2
  refine lv_istore_n (lv' := [(1, .int 1), (0, .ref h0)]) hx hb dF_read_11 rfl hl (by decide) rfl (fun ls hl => ?_)
  refine lv_aload_n hx hb dF_read_12 rfl (lv_at hl 1 rfl) ?_
  refine va_get (D := D) (ci := 0) (v := .ref h2) (C := RF) (T := TF) (N := 19) hx hb hts inF hown hK hP 0 rfl rfl 10 (by decide) (hts _ wv_671) (fun _ h9 => h9) hfs_spareNetlist dF_read_13 ?_
  refine va_get (D := D) (ci := 2) (v := .int 1) (C := RNl) (T := TNl) (N := 17) hx hb hts inNl hown hK hP 1 rfl rfl 2 (by decide) (hts _ wv_488) (fun _ h9 => h9) (List.getElem?_set_self (by rw [(List.length_set.trans (List.length_set.trans (List.length_set.trans hnsl)))]; decide)) dF_read_16 ?_
  refine lv_istore_n (lv' := [(2, .int 1), (1, .int 1), (0, .ref h0)]) hx hb dF_read_19 rfl hl (by decide) rfl (fun ls hl => ?_)
  refine lv_iload_n hx hb dF_read_20 rfl (lv_at hl 1 rfl) ?_
  refine lv_if_ne (tgt := 80) hx hb dF_read_21 (by decide) (fun _ => ?_) (fun c_3 => absurd c_3 (by decide))
  refine lv_aload_n hx hb dF_read_80 rfl (lv_at hl 2 rfl) ?_
  refine lv_iload_n hx hb dF_read_81 rfl (lv_at hl 0 rfl) ?_
  refine va_put (D := D) (ci := 0) (v := .int 1) (ty := .int) (C := RF) (T := TF) (N := 19) hx hb hts inF tyF tyokF nmF hown hK hP hD hS 0 rfl rfl 15 (by decide) (hts _ wv_676) (fun _ h9 => h9) rfl (by decide +kernel) rfl rfl (by rw [hfsl]; decide) dF_read_82 (fun H locs hP hD hS => ?_)
  have hP : va_P D vwCl [(h0, .inr (0, (fs.set 15 (.int 1)))), (h2, .inr (2, ((((ns.set 0 (.int 0)).set 1 (.int 0)).set 6 (.int 0)).set 2 (.int 1)))), (h1, .inr (1, ((((((gs.set 6 (.int 0)).set 4 (.int (-1))).set 4 (.int 0)).set 5 (.int 0)).set 6 (.int 1)).set 4 (.int 1))))] H := hP
  have hD : va_D A [(h0, .inr (0, (fs.set 15 (.int 1)))), (h2, .inr (2, ((((ns.set 0 (.int 0)).set 1 (.int 0)).set 6 (.int 0)).set 2 (.int 1)))), (h1, .inr (1, ((((((gs.set 6 (.int 0)).set 4 (.int (-1))).set 4 (.int 0)).set 5 (.int 0)).set 6 (.int 1)).set 4 (.int 1))))] := hD
  refine lv_iload_n hx hb dF_read_85 rfl (lv_at hl 1 rfl) ?_
  exact cf_iret hx hb hr hlocks () rfl hP hD hS [0, 1, 2] rfl (by decide +kernel) (Nat.le_of_ble_eq_true rfl) (Nat.le_of_ble_eq_true rfl) dF_read_86
set_option maxHeartbeats 4000000 in
set_option maxRecDepth 100000 in
/-- scan -/
theorem kLi_scan0 (l : Launch) (D : va_G) (K : Nat → ClassId) (sz : Nat) (h2 : Nat) (ks : List Value) (h1 : Nat) (gs : List Value) (hksl : ks.length = 12) (hgsl : gs.length = 7) (hgs_size : gs[3]? = some (.int 0)) : Met l yLi_scan (Cond.code yLi_scan cLi_scan 5 (Option.some Jvm.ClassFile.FieldType.int) :: cfB) ({ frames := 2, cells := 0, slots := 0, locals := 45 }) (va_Pc [.ref h2, .ref h1] (cf_Pre D K sz [(h2, .inr (11, ks)), (h1, .inr (1, gs))])) (va_Qi (fun (r : Int32) (_ : Unit) => r = 1) (fun (_ : Unit) t => cf_At D (va_A [(h2, .inr (11, ks)), (h1, .inr (1, gs))] sz) [(h2, .inr (11, (ks.set 0 (.int 0)))), (h1, .inr (1, ((((((gs.set 6 (.int 0)).set 4 (.int (-1))).set 4 (.int 0)).set 5 (.int 0)).set 6 (.int 1)).set 4 (.int 1))))] t) (va_A [(h2, .inr (11, ks)), (h1, .inr (1, gs))] sz)) 0 0 (va_A [(h2, .inr (11, ks)), (h1, .inr (1, gs))] sz) := by
  refine cf_ofW (y := yLi_scan) (As := [.ref h2, .ref h1]) (WS := [(h2, .inr (11, ks)), (h1, .inr (1, gs))]) (maxL := 5) (fun A => (va_Qi (fun (r : Int32) (_ : Unit) => r = 1) (fun (_ : Unit) t => cf_At D A [(h2, .inr (11, (ks.set 0 (.int 0)))), (h1, .inr (1, ((((((gs.set 6 (.int 0)).set 4 (.int (-1))).set 4 (.int 0)).set 5 (.int 0)).set 6 (.int 1)).set 4 (.int 1))))] t) A)) (by decide) (Nat.le_of_ble_eq_true rfl) ?_
  intro p e s m below meth c A ls En hsz hA hP hD hE hS hl
  obtain ⟨hx, hb, hr, hts, hown, hlocks, hin, hml⟩ := En
  have hK := hE.k
  have hl : lv_has ls 5 [(0, .ref h2), (1, .ref h1)] := hl
  refine lv_aload_n hx hb dLi_scan_0 rfl (lv_at hl 0 rfl) ?_
  refine lv_iconst (v := 0) hx hb dLi_scan_1 (by decide) ?_
  refine va_put (D := D) (ci := 11) (v := .int 0) (ty := .int) (C := RLi) (T := TLi) (N := 12) hx hb hts inLi tyLi tyokLi nmLi hown hK hP hD hS 0 rfl rfl 0 (by decide) (hts _ wv_610) (fun _ h9 => h9) rfl (by decide +kernel) rfl rfl (by rw [hksl]; decide) dLi_scan_2 (fun H locs hP hD hS => ?_)
  have hP : va_P D vwCl [(h2, .inr (11, (ks.set 0 (.int 0)))), (h1, .inr (1, gs))] H := hP
  have hD : va_D A [(h2, .inr (11, (ks.set 0 (.int 0)))), (h1, .inr (1, gs))] := hD
  refine lv_iconst (v := 0) hx hb dLi_scan_5 (by decide) ?_
  refine lv_istore_n (lv' := [(2, .int 0), (0, .ref h2), (1, .ref h1)]) hx hb dLi_scan_6 rfl hl (by decide) rfl (fun ls hl => ?_)
  refine lv_aload_n hx hb dLi_scan_7 rfl (lv_at hl 2 rfl) ?_
  refine cf_callv (wc := [(h1, .inr (1, gs))]) (wr := [(h2, .inr (11, (ks.set 0 (.int 0))))]) (va_runV (As := []) (rest := []) ⟨hx, hb, hml, hown, hts⟩ (kTx_rewind l D K _ h1 gs hgsl) (cwV 0 hts (cf_GV wv_731 wv_732 wv_733 wv_158 wv_734) rfl rfl rfl (by decide +kernel) ⟨Nat.le_of_ble_eq_true rfl, Nat.le_of_ble_eq_true rfl⟩) (cf_preV (wc := [(h1, .inr (1, gs))]) hE hP hD hS hA rfl 1 rfl [1] rfl (by decide +kernel)) rfl rfl hl.1 rfl (lv_room (Nat.le_of_ble_eq_true rfl)) dLi_scan_8 ⟨Nat.le_of_ble_eq_true rfl, Nat.le_of_ble_eq_true rfl⟩) hP hD hS hA [1] [0] rfl rfl (by decide +kernel) (by decide +kernel) (fun _ H locs hw_1 hP hD hS => ?_)
  have hP : va_P D vwCl [(h2, .inr (11, (ks.set 0 (.int 0)))), (h1, .inr (1, ((gs.set 6 (.int 0)).set 4 (.int (-1)))))] H := hP
  have hD : va_D A [(h2, .inr (11, (ks.set 0 (.int 0)))), (h1, .inr (1, ((gs.set 6 (.int 0)).set 4 (.int (-1)))))] := hD
  refine lv_iconst (v := 0) hx hb dLi_scan_11 (by decide) ?_
  refine lv_istore_n (lv' := [(3, .int 0), (2, .int 0), (0, .ref h2), (1, .ref h1)]) hx hb dLi_scan_12 rfl hl (by decide) rfl (fun ls hl => ?_)
  refine lv_iload_n hx hb dLi_scan_13 rfl (lv_at hl 0 rfl) ?_
  refine lv_sipush (v := 1600) hx hb dLi_scan_14 (by decide) ?_
  refine lv_icmp_gt (tgt := 64) hx hb dLi_scan_17 (by decide) (fun c_2 => absurd c_2 (by decide)) (fun _ => ?_)
  refine lv_aload_n hx hb dLi_scan_20 rfl (lv_at hl 3 rfl) ?_
  refine cf_calli (wc := [(h1, .inr (1, ((gs.set 6 (.int 0)).set 4 (.int (-1)))))]) (wr := [(h2, .inr (11, (ks.set 0 (.int 0))))]) (va_runV (As := []) (rest := []) ⟨hx, hb, hml, hown, hts⟩ (kTx_toNextLine0 l D K _ h1 ((gs.set 6 (.int 0)).set 4 (.int (-1))) (List.length_set.trans (List.length_set.trans hgsl)) (by rw [List.getElem?_set_ne (by decide)]; exact (by rw [List.getElem?_set_ne (by decide)]; exact hgs_size)) (by rw [List.getElem?_set_ne (by decide)]; exact (List.getElem?_set_self (by rw [hgsl]; decide))) (List.getElem?_set_self (by rw [(List.length_set.trans hgsl)]; decide))) (cwV 0 hts (cf_GV wv_735 wv_736 wv_737 wv_158 wv_738) rfl rfl rfl (by decide +kernel) ⟨Nat.le_of_ble_eq_true rfl, Nat.le_of_ble_eq_true rfl⟩) (cf_preV (wc := [(h1, .inr (1, ((gs.set 6 (.int 0)).set 4 (.int (-1)))))]) hE hP hD hS hA rfl 1 rfl [1] rfl (by decide +kernel)) rfl rfl hl.1 rfl (lv_room (Nat.le_of_ble_eq_true rfl)) dLi_scan_21 ⟨Nat.le_of_ble_eq_true rfl, Nat.le_of_ble_eq_true rfl⟩) hP hD hS hA [1] [0] rfl rfl (by decide +kernel) (by decide +kernel) (fun r_3 _ H locs hw_4 hP hD hS => ?_)
  have hP : va_P D vwCl [(h2, .inr (11, (ks.set 0 (.int 0)))), (h1, .inr (1, ((((((gs.set 6 (.int 0)).set 4 (.int (-1))).set 4 (.int 0)).set 5 (.int 0)).set 6 (.int 1)).set 4 (.int 1))))] H := hP
  have hD : va_D A [(h2, .inr (11, (ks.set 0 (.int 0)))), (h1, .inr (1, ((((((gs.set 6 (.int 0)).set 4 (.int (-1))).set 4 (.int 0)).set 5 (.int 0)).set 6 (.int 1)).set 4 (.int 1))))] := hD
  subst hw_4
  refine lv_if_eq (tgt := 64) hx hb dLi_scan_24 (by decide) (fun _ => ?_) (fun c_5 => absurd (by decide) c_5)
  refine lv_iload_n hx hb dLi_scan_64 rfl (lv_at hl 1 rfl) ?_
  refine lv_if_ne (tgt := 70) hx hb dLi_scan_65 (by decide) (fun c_6 => absurd (by decide) c_6) (fun _ => ?_)
  refine lv_iconst (v := 1) hx hb dLi_scan_68 (by decide) ?_
  exact cf_iret hx hb hr hlocks () rfl hP hD hS [0, 1] rfl (by decide +kernel) (Nat.le_of_ble_eq_true rfl) (Nat.le_of_ble_eq_true rfl) dLi_scan_69
set_option maxHeartbeats 4000000 in
set_option maxRecDepth 100000 in
/-- library -/
theorem kF_library0 (l : Launch) (D : va_G) (K : Nat → ClassId) (sz : Nat) (h0 : Nat) (fs : List Value) (h1 : Nat) (gs : List Value) (h2 : Nat) (ks : List Value) (hfsl : fs.length = 19) (hfs_text : fs[0]? = some (.ref h1)) (hfs_spareKit : fs[14]? = some (.ref h2)) (hgsl : gs.length = 7) (hgs_size : gs[3]? = some (.int 0)) (hksl : ks.length = 12) : Met l yF_library (Cond.code yF_library cF_library 3 (Option.some Jvm.ClassFile.FieldType.int) :: cfB) ({ frames := 3, cells := 0, slots := 0, locals := 69 }) (va_Pc [.ref h0] (cf_Pre D K sz [(h0, .inr (0, fs)), (h1, .inr (1, gs)), (h2, .inr (11, ks))])) (va_Qi (fun (r : Int32) (_ : Unit) => r = 1) (fun (_ : Unit) t => cf_At D (va_A [(h0, .inr (0, fs)), (h1, .inr (1, gs)), (h2, .inr (11, ks))] sz) [(h0, .inr (0, (fs.set 15 (.int 1)))), (h2, .inr (11, (ks.set 0 (.int 0)))), (h1, .inr (1, ((((((gs.set 6 (.int 0)).set 4 (.int (-1))).set 4 (.int 0)).set 5 (.int 0)).set 6 (.int 1)).set 4 (.int 1))))] t) (va_A [(h0, .inr (0, fs)), (h1, .inr (1, gs)), (h2, .inr (11, ks))] sz)) 0 0 (va_A [(h0, .inr (0, fs)), (h1, .inr (1, gs)), (h2, .inr (11, ks))] sz) := by
  refine cf_ofW (y := yF_library) (As := [.ref h0]) (WS := [(h0, .inr (0, fs)), (h1, .inr (1, gs)), (h2, .inr (11, ks))]) (maxL := 3) (fun A => (va_Qi (fun (r : Int32) (_ : Unit) => r = 1) (fun (_ : Unit) t => cf_At D A [(h0, .inr (0, (fs.set 15 (.int 1)))), (h2, .inr (11, (ks.set 0 (.int 0)))), (h1, .inr (1, ((((((gs.set 6 (.int 0)).set 4 (.int (-1))).set 4 (.int 0)).set 5 (.int 0)).set 6 (.int 1)).set 4 (.int 1))))] t) A)) (by decide) (Nat.le_of_ble_eq_true rfl) ?_
  intro p e s m below meth c A ls En hsz hA hP hD hE hS hl
  obtain ⟨hx, hb, hr, hts, hown, hlocks, hin, hml⟩ := En
  have hK := hE.k
  have hl : lv_has ls 3 [(0, .ref h0)] := hl
  refine lv_aload_n hx hb dF_library_0 rfl (lv_at hl 0 rfl) ?_
  refine va_get (D := D) (ci := 0) (v := .ref h2) (C := RF) (T := TF) (N := 19) hx hb hts inF hown hK hP 0 rfl rfl 14 (by decide) (hts _ wv_675) (fun _ h9 => h9) hfs_spareKit dF_library_1 ?_
  refine lv_aload_n hx hb dF_library_4 rfl (lv_at hl 0 rfl) ?_
  refine va_get (D := D) (ci := 0) (v := .ref h1) (C := RF) (T := TF) (N := 19) hx hb hts inF hown hK hP 0 rfl rfl 0 (by decide) (hts _ wv_661) (fun _ h9 => h9) hfs_text dF_library_5 ?_
  refine cf_calli (wc := [(h2, .inr (11, ks)), (h1, .inr (1, gs))]) (wr := [(h0, .inr (0, fs))]) (va_runV (As := [.ref h1]) (rest := []) ⟨hx, hb, hml, hown, hts⟩ (kLi_scan0 l D K _ h2 ks h1 gs hksl hgsl hgs_size) (cwV 1 hts (cf_GV wv_727 wv_728 wv_729 wv_172 wv_730) rfl rfl rfl (by decide +kernel) ⟨Nat.le_of_ble_eq_true rfl, Nat.le_of_ble_eq_true rfl⟩) (cf_preV (wc := [(h2, .inr (11, ks)), (h1, .inr (1, gs))]) hE hP hD hS hA rfl 2 rfl [2, 1] rfl (by decide +kernel)) rfl rfl hl.1 rfl (lv_room (Nat.le_of_ble_eq_true rfl)) dF_library_8 ⟨Nat.le_of_ble_eq_true rfl, Nat.le_of_ble_eq_true rfl⟩) hP hD hS hA [2, 1] [0] rfl rfl (by decide +kernel) (by decide +kernel) (fun r_1 _ H locs hw_2 hP hD hS => ?_)
  have hP : va_P D vwCl [(h0, .inr (0, fs)), (h2, .inr (11, (ks.set 0 (.int 0)))), (h1, .inr (1, ((((((gs.set 6 (.int 0)).set 4 (.int (-1))).set 4 (.int 0)).set 5 (.int 0)).set 6 (.int 1)).set 4 (.int 1))))] H := hP
  have hD : va_D A [(h0, .inr (0, fs)), (h2, .inr (11, (ks.set 0 (.int 0)))), (h1, .inr (1, ((((((gs.set 6 (.int 0)).set 4 (.int (-1))).set 4 (.int 0)).set 5 (.int 0)).set 6 (.int 1)).set 4 (.int 1))))] := hD
  subst hw_2
  refine lv_istore_n (lv' := [(1, .int 1), (0, .ref h0)]) hx hb dF_library_11 rfl hl (by decide) rfl (fun ls hl => ?_)
  refine lv_iload_n hx hb dF_library_12 rfl (lv_at hl 0 rfl) ?_
  refine lv_if_ne (tgt := 47) hx hb dF_library_13 (by decide) (fun _ => ?_) (fun c_3 => absurd c_3 (by decide))
  refine lv_aload_n hx hb dF_library_47 rfl (lv_at hl 1 rfl) ?_
  refine lv_aload_n hx hb dF_library_48 rfl (lv_at hl 1 rfl) ?_
  refine va_get (D := D) (ci := 0) (v := .ref h1) (C := RF) (T := TF) (N := 19) hx hb hts inF hown hK hP 0 rfl rfl 0 (by decide) (hts _ wv_661) (fun _ h9 => h9) hfs_text dF_library_49 ?_
  refine va_get (D := D) (ci := 1) (v := .int 1) (C := RTx) (T := TTx) (N := 7) hx hb hts inTx hown hK hP 2 rfl rfl 4 (by decide) (hts _ wv_212) (fun _ h9 => h9) (List.getElem?_set_self (by rw [(List.length_set.trans (List.length_set.trans (List.length_set.trans (List.length_set.trans (List.length_set.trans hgsl)))))]; decide)) dF_library_52 ?_
  refine va_put (D := D) (ci := 0) (v := .int 1) (ty := .int) (C := RF) (T := TF) (N := 19) hx hb hts inF tyF tyokF nmF hown hK hP hD hS 0 rfl rfl 15 (by decide) (hts _ wv_676) (fun _ h9 => h9) rfl (by decide +kernel) rfl rfl (by rw [hfsl]; decide) dF_library_55 (fun H locs hP hD hS => ?_)
  have hP : va_P D vwCl [(h0, .inr (0, (fs.set 15 (.int 1)))), (h2, .inr (11, (ks.set 0 (.int 0)))), (h1, .inr (1, ((((((gs.set 6 (.int 0)).set 4 (.int (-1))).set 4 (.int 0)).set 5 (.int 0)).set 6 (.int 1)).set 4 (.int 1))))] H := hP
  have hD : va_D A [(h0, .inr (0, (fs.set 15 (.int 1)))), (h2, .inr (11, (ks.set 0 (.int 0)))), (h1, .inr (1, ((((((gs.set 6 (.int 0)).set 4 (.int (-1))).set 4 (.int 0)).set 5 (.int 0)).set 6 (.int 1)).set 4 (.int 1))))] := hD
  refine lv_iload_n hx hb dF_library_58 rfl (lv_at hl 0 rfl) ?_
  exact cf_iret hx hb hr hlocks () rfl hP hD hS [0, 1, 2] rfl (by decide +kernel) (Nat.le_of_ble_eq_true rfl) (Nat.le_of_ble_eq_true rfl) dF_library_59
set_option maxHeartbeats 4000000 in
set_option maxRecDepth 100000 in
/-- takeLine -/
theorem kM_takeLine0 (l : Launch) (D : va_G) (K : Nat → ClassId) (sz : Nat) (h0 : Nat) (fs : List Value) (hfsl : fs.length = 99) (hfs_size : fs[2]? = some (.int 0)) : Met l yM_takeLine (Cond.code yM_takeLine cM_takeLine 5 (Option.some Jvm.ClassFile.FieldType.int) :: cfB) ({ frames := 0, cells := 0, slots := 0, locals := 0 }) (va_Pc [.ref h0, .int 0] (cf_Pre D K sz [(h0, .inr (12, fs))])) (va_Qi (fun (r : Int32) (_ : Unit) => r = 0) (fun (_ : Unit) t => cf_At D (va_A [(h0, .inr (12, fs))] sz) [(h0, .inr (12, (fs.set 7 (.int 0))))] t) (va_A [(h0, .inr (12, fs))] sz)) 0 0 (va_A [(h0, .inr (12, fs))] sz) := by
  refine cf_ofW (y := yM_takeLine) (As := [.ref h0, .int 0]) (WS := [(h0, .inr (12, fs))]) (maxL := 5) (fun A => (va_Qi (fun (r : Int32) (_ : Unit) => r = 0) (fun (_ : Unit) t => cf_At D A [(h0, .inr (12, (fs.set 7 (.int 0))))] t) A)) (by decide) (Nat.le_of_ble_eq_true rfl) ?_
  intro p e s m below meth c A ls En hsz hA hP hD hE hS hl
  obtain ⟨hx, hb, hr, hts, hown, hlocks, hin, hml⟩ := En
  have hK := hE.k
  have hl : lv_has ls 5 [(0, .ref h0), (1, .int 0)] := hl
  refine lv_iload_n hx hb dM_takeLine_0 rfl (lv_at hl 1 rfl) ?_
  refine lv_istore_n (lv' := [(2, .int 0), (0, .ref h0), (1, .int 0)]) hx hb dM_takeLine_1 rfl hl (by decide) rfl (fun ls hl => ?_)
  refine lv_iload_n hx hb dM_takeLine_2 rfl (lv_at hl 0 rfl) ?_
  refine lv_aload_n hx hb dM_takeLine_3 rfl (lv_at hl 1 rfl) ?_
  refine va_get (D := D) (ci := 12) (v := .int 0) (C := RM) (T := TM) (N := 99) hx hb hts inM hown hK hP 0 rfl rfl 2 (by decide) (hts _ wv_1984) (fun _ h9 => h9) hfs_size dM_takeLine_4 ?_
  refine lv_icmp_ge (tgt := 27) hx hb dM_takeLine_7 (by decide) (fun _ => ?_) (fun c_1 => absurd (by decide) c_1)
  refine lv_iload_n hx hb dM_takeLine_27 rfl (lv_at hl 2 rfl) ?_
  refine lv_istore_n (lv' := [(3, .int 0), (2, .int 0), (0, .ref h0), (1, .int 0)]) hx hb dM_takeLine_28 rfl hl (by decide) rfl (fun ls hl => ?_)
  refine lv_iload_n hx hb dM_takeLine_29 rfl (lv_at hl 0 rfl) ?_
  refine lv_iload_n hx hb dM_takeLine_30 rfl (lv_at hl 1 rfl) ?_
  refine lv_icmp_ge (tgt := 51) hx hb dM_takeLine_31 (by decide) (fun _ => ?_) (fun c_2 => absurd (by decide) c_2)
  refine lv_aload_n hx hb dM_takeLine_51 rfl (lv_at hl 2 rfl) ?_
  refine lv_iconst (v := 0) hx hb dM_takeLine_52 (by decide) ?_
  refine va_put (D := D) (ci := 12) (v := .int 0) (ty := .int) (C := RM) (T := TM) (N := 99) hx hb hts inM tyM tyokM nmM hown hK hP hD hS 0 rfl rfl 7 (by decide) (hts _ wv_1989) (fun _ h9 => h9) rfl (by decide +kernel) rfl rfl (by rw [hfsl]; decide) dM_takeLine_53 (fun H locs hP hD hS => ?_)
  have hP : va_P D vwCl [(h0, .inr (12, (fs.set 7 (.int 0))))] H := hP
  have hD : va_D A [(h0, .inr (12, (fs.set 7 (.int 0))))] := hD
  refine lv_iload_n hx hb dM_takeLine_56 rfl (lv_at hl 3 rfl) ?_
  refine lv_istore (lv' := [(4, .int 0), (3, .int 0), (2, .int 0), (0, .ref h0), (1, .int 0)]) hx hb dM_takeLine_57 hl (by decide) rfl (fun ls hl => ?_)
  refine lv_iload hx hb dM_takeLine_59 (lv_at hl 0 rfl) ?_
  refine lv_iload_n hx hb dM_takeLine_61 rfl (lv_at hl 1 rfl) ?_
  refine lv_icmp_ge (tgt := 154) hx hb dM_takeLine_62 (by decide) (fun _ => ?_) (fun c_3 => absurd (by decide) c_3)
  refine lv_iload_n hx hb dM_takeLine_154 rfl (lv_at hl 2 rfl) ?_
  exact cf_iret hx hb hr hlocks () rfl hP hD hS [0] rfl (by decide +kernel) (Nat.le_of_ble_eq_true rfl) (Nat.le_of_ble_eq_true rfl) dM_takeLine_155
set_option maxHeartbeats 4000000 in
set_option maxRecDepth 100000 in
/-- fail -/
theorem kM_fail0 (l : Launch) (D : va_G) (K : Nat → ClassId) (sz : Nat) (h0 : Nat) (fs : List Value) (p0 : Int32) (p1 : Int32) (hfsl : fs.length = 99) (hfs_fault : fs[5]? = some (.int 0)) : Met l yM_fail (Cond.code yM_fail cM_fail 3 (Option.none : Option Jvm.ClassFile.FieldType) :: cfB) ({ frames := 0, cells := 0, slots := 0, locals := 0 }) (va_Pc [.ref h0, .int p0, .int p1] (cf_Pre D K sz [(h0, .inr (12, fs))])) (va_Qv (fun (_ : Unit) => True) (fun (_ : Unit) t => cf_At D (va_A [(h0, .inr (12, fs))] sz) [(h0, .inr (12, ((fs.set 5 (.int p0)).set 6 (.int p1))))] t) (va_A [(h0, .inr (12, fs))] sz)) 0 0 (va_A [(h0, .inr (12, fs))] sz) := by
  refine cf_ofW (y := yM_fail) (As := [.ref h0, .int p0, .int p1]) (WS := [(h0, .inr (12, fs))]) (maxL := 3) (fun A => (va_Qv (fun (_ : Unit) => True) (fun (_ : Unit) t => cf_At D A [(h0, .inr (12, ((fs.set 5 (.int p0)).set 6 (.int p1))))] t) A)) (by decide) (Nat.le_of_ble_eq_true rfl) ?_
  intro p e s m below meth c A ls En hsz hA hP hD hE hS hl
  obtain ⟨hx, hb, hr, hts, hown, hlocks, hin, hml⟩ := En
  have hK := hE.k
  have hl : lv_has ls 3 [(0, .ref h0), (1, .int p0), (2, .int p1)] := hl
  refine lv_aload_n hx hb dM_fail_0 rfl (lv_at hl 0 rfl) ?_
  refine va_get (D := D) (ci := 12) (v := .int 0) (C := RM) (T := TM) (N := 99) hx hb hts inM hown hK hP 0 rfl rfl 5 (by decide) (hts _ wv_1987) (fun _ h9 => h9) hfs_fault dM_fail_1 ?_
  refine lv_if_ne (tgt := 17) hx hb dM_fail_4 (by decide) (fun c_1 => absurd (by decide) c_1) (fun _ => ?_)
  refine lv_aload_n hx hb dM_fail_7 rfl (lv_at hl 0 rfl) ?_
  refine lv_iload_n hx hb dM_fail_8 rfl (lv_at hl 1 rfl) ?_
  refine va_put (D := D) (ci := 12) (v := .int p0) (ty := .int) (C := RM) (T := TM) (N := 99) hx hb hts inM tyM tyokM nmM hown hK hP hD hS 0 rfl rfl 5 (by decide) (hts _ wv_1987) (fun _ h9 => h9) rfl (by decide +kernel) rfl rfl (by rw [hfsl]; decide) dM_fail_9 (fun H locs hP hD hS => ?_)
  have hP : va_P D vwCl [(h0, .inr (12, (fs.set 5 (.int p0))))] H := hP
  have hD : va_D A [(h0, .inr (12, (fs.set 5 (.int p0))))] := hD
  refine lv_aload_n hx hb dM_fail_12 rfl (lv_at hl 0 rfl) ?_
  refine lv_iload_n hx hb dM_fail_13 rfl (lv_at hl 2 rfl) ?_
  refine va_put (D := D) (ci := 12) (v := .int p1) (ty := .int) (C := RM) (T := TM) (N := 99) hx hb hts inM tyM tyokM nmM hown hK hP hD hS 0 rfl rfl 6 (by decide) (hts _ wv_1988) (fun _ h9 => h9) rfl (by decide +kernel) rfl rfl (by rw [(List.length_set.trans hfsl)]; decide) dM_fail_14 (fun H locs hP hD hS => ?_)
  have hP : va_P D vwCl [(h0, .inr (12, ((fs.set 5 (.int p0)).set 6 (.int p1))))] H := hP
  have hD : va_D A [(h0, .inr (12, ((fs.set 5 (.int p0)).set 6 (.int p1))))] := hD
  exact cf_vret hx hb hr hlocks () trivial hP hD hS [0] rfl (by decide +kernel) (Nat.le_of_ble_eq_true rfl) (Nat.le_of_ble_eq_true rfl) dM_fail_17
set_option maxHeartbeats 4000000 in
set_option maxRecDepth 100000 in
/-- readLines -/
theorem kM_readLines0 (l : Launch) (D : va_G) (K : Nat → ClassId) (sz : Nat) (h0 : Nat) (fs : List Value) (hfsl : fs.length = 99) (hfs_size : fs[2]? = some (.int 0)) : Met l yM_readLines (Cond.code yM_readLines cM_readLines 7 (Option.none : Option Jvm.ClassFile.FieldType) :: cfB) ({ frames := 1, cells := 0, slots := 0, locals := 24 }) (va_Pc [.ref h0] (cf_Pre D K sz [(h0, .inr (12, fs))])) (va_Qv (fun (_ : Unit) => True) (fun (_ : Unit) t => cf_At D (va_A [(h0, .inr (12, fs))] sz) [(h0, .inr (12, (((((((fs.set 5 (.int 0)).set 6 (.int (-1))).set 10 (.int 0)).set 17 (.int 0)).set 7 (.int 0)).set 5 (.int 1)).set 6 (.int 1))))] t) (va_A [(h0, .inr (12, fs))] sz)) 0 0 (va_A [(h0, .inr (12, fs))] sz) := by
  refine cf_ofW (y := yM_readLines) (As := [.ref h0]) (WS := [(h0, .inr (12, fs))]) (maxL := 7) (fun A => (va_Qv (fun (_ : Unit) => True) (fun (_ : Unit) t => cf_At D A [(h0, .inr (12, (((((((fs.set 5 (.int 0)).set 6 (.int (-1))).set 10 (.int 0)).set 17 (.int 0)).set 7 (.int 0)).set 5 (.int 1)).set 6 (.int 1))))] t) A)) (by decide) (Nat.le_of_ble_eq_true rfl) ?_
  intro p e s m below meth c A ls En hsz hA hP hD hE hS hl
  obtain ⟨hx, hb, hr, hts, hown, hlocks, hin, hml⟩ := En
  have hK := hE.k
  have hl : lv_has ls 7 [(0, .ref h0)] := hl
  refine lv_aload_n hx hb dM_readLines_0 rfl (lv_at hl 0 rfl) ?_
  refine lv_iconst (v := 0) hx hb dM_readLines_1 (by decide) ?_
  refine va_put (D := D) (ci := 12) (v := .int 0) (ty := .int) (C := RM) (T := TM) (N := 99) hx hb hts inM tyM tyokM nmM hown hK hP hD hS 0 rfl rfl 5 (by decide) (hts _ wv_1987) (fun _ h9 => h9) rfl (by decide +kernel) rfl rfl (by rw [hfsl]; decide) dM_readLines_2 (fun H locs hP hD hS => ?_)
  have hP : va_P D vwCl [(h0, .inr (12, (fs.set 5 (.int 0))))] H := hP
  have hD : va_D A [(h0, .inr (12, (fs.set 5 (.int 0))))] := hD
  refine lv_aload_n hx hb dM_readLines_5 rfl (lv_at hl 0 rfl) ?_
  refine lv_iconst (v := (-1)) hx hb dM_readLines_6 (by decide) ?_
  refine va_put (D := D) (ci := 12) (v := .int (-1)) (ty := .int) (C := RM) (T := TM) (N := 99) hx hb hts inM tyM tyokM nmM hown hK hP hD hS 0 rfl rfl 6 (by decide) (hts _ wv_1988) (fun _ h9 => h9) rfl (by decide +kernel) rfl rfl (by rw [(List.length_set.trans hfsl)]; decide) dM_readLines_7 (fun H locs hP hD hS => ?_)
  have hP : va_P D vwCl [(h0, .inr (12, ((fs.set 5 (.int 0)).set 6 (.int (-1)))))] H := hP
  have hD : va_D A [(h0, .inr (12, ((fs.set 5 (.int 0)).set 6 (.int (-1)))))] := hD
  refine lv_aload_n hx hb dM_readLines_10 rfl (lv_at hl 0 rfl) ?_
  refine lv_iconst (v := 0) hx hb dM_readLines_11 (by decide) ?_
  refine va_put (D := D) (ci := 12) (v := .int 0) (ty := .int) (C := RM) (T := TM) (N := 99) hx hb hts inM tyM tyokM nmM hown hK hP hD hS 0 rfl rfl 10 (by decide) (hts _ wv_1992) (fun _ h9 => h9) rfl (by decide +kernel) rfl rfl (by rw [(List.length_set.trans (List.length_set.trans hfsl))]; decide) dM_readLines_12 (fun H locs hP hD hS => ?_)
  have hP : va_P D vwCl [(h0, .inr (12, (((fs.set 5 (.int 0)).set 6 (.int (-1))).set 10 (.int 0))))] H := hP
  have hD : va_D A [(h0, .inr (12, (((fs.set 5 (.int 0)).set 6 (.int (-1))).set 10 (.int 0))))] := hD
  refine lv_aload_n hx hb dM_readLines_15 rfl (lv_at hl 0 rfl) ?_
  refine lv_iconst (v := 0) hx hb dM_readLines_16 (by decide) ?_
  refine va_put (D := D) (ci := 12) (v := .int 0) (ty := .int) (C := RM) (T := TM) (N := 99) hx hb hts inM tyM tyokM nmM hown hK hP hD hS 0 rfl rfl 17 (by decide) (hts _ wv_1999) (fun _ h9 => h9) rfl (by decide +kernel) rfl rfl (by rw [(List.length_set.trans (List.length_set.trans (List.length_set.trans hfsl)))]; decide) dM_readLines_17 (fun H locs hP hD hS => ?_)
  have hP : va_P D vwCl [(h0, .inr (12, ((((fs.set 5 (.int 0)).set 6 (.int (-1))).set 10 (.int 0)).set 17 (.int 0))))] H := hP
  have hD : va_D A [(h0, .inr (12, ((((fs.set 5 (.int 0)).set 6 (.int (-1))).set 10 (.int 0)).set 17 (.int 0))))] := hD
  refine lv_iconst (v := 0) hx hb dM_readLines_20 (by decide) ?_
  refine lv_istore_n (lv' := [(1, .int 0), (0, .ref h0)]) hx hb dM_readLines_21 rfl hl (by decide) rfl (fun ls hl => ?_)
  refine lv_iconst (v := 0) hx hb dM_readLines_22 (by decide) ?_
  refine lv_istore_n (lv' := [(2, .int 0), (1, .int 0), (0, .ref h0)]) hx hb dM_readLines_23 rfl hl (by decide) rfl (fun ls hl => ?_)
  refine lv_iconst (v := 0) hx hb dM_readLines_24 (by decide) ?_
  refine lv_istore_n (lv' := [(3, .int 0), (2, .int 0), (1, .int 0), (0, .ref h0)]) hx hb dM_readLines_25 rfl hl (by decide) rfl (fun ls hl => ?_)
  refine lv_iload_n hx hb dM_readLines_26 rfl (lv_at hl 0 rfl) ?_
  refine lv_aload_n hx hb dM_readLines_27 rfl (lv_at hl 3 rfl) ?_
  refine va_get (D := D) (ci := 12) (v := .int 0) (C := RM) (T := TM) (N := 99) hx hb hts inM hown hK hP 0 rfl rfl 2 (by decide) (hts _ wv_1984) (fun _ h9 => h9) (by rw [List.getElem?_set_ne (by decide)]; exact (by rw [List.getElem?_set_ne (by decide)]; exact (by rw [List.getElem?_set_ne (by decide)]; exact (by rw [List.getElem?_set_ne (by decide)]; exact hfs_size)))) dM_readLines_28 ?_
  refine lv_icmp_gt (tgt := 227) hx hb dM_readLines_31 (by decide) (fun c_1 => absurd c_1 (by decide)) (fun _ => ?_)
  refine lv_aload_n hx hb dM_readLines_34 rfl (lv_at hl 3 rfl) ?_
  refine va_get (D := D) (ci := 12) (v := .int 0) (C := RM) (T := TM) (N := 99) hx hb hts inM hown hK hP 0 rfl rfl 5 (by decide) (hts _ wv_1987) (fun _ h9 => h9) (by rw [List.getElem?_set_ne (by decide)]; exact (by rw [List.getElem?_set_ne (by decide)]; exact (by rw [List.getElem?_set_ne (by decide)]; exact (List.getElem?_set_self (by rw [hfsl]; decide))))) dM_readLines_35 ?_
  refine lv_if_ne (tgt := 227) hx hb dM_readLines_38 (by decide) (fun c_2 => absurd (by decide) c_2) (fun _ => ?_)
  refine lv_aload_n hx hb dM_readLines_41 rfl (lv_at hl 3 rfl) ?_
  refine lv_iload_n hx hb dM_readLines_42 rfl (lv_at hl 0 rfl) ?_
  refine cf_calli (wc := [(h0, .inr (12, ((((fs.set 5 (.int 0)).set 6 (.int (-1))).set 10 (.int 0)).set 17 (.int 0))))]) (wr := []) (va_runV (As := [.int 0]) (rest := []) ⟨hx, hb, hml, hown, hts⟩ (kM_takeLine0 l D K _ h0 ((((fs.set 5 (.int 0)).set 6 (.int (-1))).set 10 (.int 0)).set 17 (.int 0)) (List.length_set.trans (List.length_set.trans (List.length_set.trans (List.length_set.trans hfsl)))) (by rw [List.getElem?_set_ne (by decide)]; exact (by rw [List.getElem?_set_ne (by decide)]; exact (by rw [List.getElem?_set_ne (by decide)]; exact (by rw [List.getElem?_set_ne (by decide)]; exact hfs_size))))) (cwV 1 hts (cf_GV wv_2307 wv_2309 wv_65 wv_173 wv_2310) rfl rfl rfl (by decide +kernel) ⟨Nat.le_of_ble_eq_true rfl, Nat.le_of_ble_eq_true rfl⟩) (cf_preV (wc := [(h0, .inr (12, ((((fs.set 5 (.int 0)).set 6 (.int (-1))).set 10 (.int 0)).set 17 (.int 0))))]) hE hP hD hS hA rfl 0 rfl [0] rfl (by decide +kernel)) rfl rfl hl.1 rfl (lv_room (Nat.le_of_ble_eq_true rfl)) dM_readLines_43 ⟨Nat.le_of_ble_eq_true rfl, Nat.le_of_ble_eq_true rfl⟩) hP hD hS hA [0] [] rfl rfl (by decide +kernel) (by decide +kernel) (fun r_3 _ H locs hw_4 hP hD hS => ?_)
  have hP : va_P D vwCl [(h0, .inr (12, (((((fs.set 5 (.int 0)).set 6 (.int (-1))).set 10 (.int 0)).set 17 (.int 0)).set 7 (.int 0))))] H := hP
  have hD : va_D A [(h0, .inr (12, (((((fs.set 5 (.int 0)).set 6 (.int (-1))).set 10 (.int 0)).set 17 (.int 0)).set 7 (.int 0))))] := hD
  subst hw_4
  refine lv_istore (lv' := [(4, .int 0), (3, .int 0), (2, .int 0), (1, .int 0), (0, .ref h0)]) hx hb dM_readLines_46 hl (by decide) rfl (fun ls hl => ?_)
  refine lv_aload_n hx hb dM_readLines_48 rfl (lv_at hl 4 rfl) ?_
  refine va_get (D := D) (ci := 12) (v := .int 0) (C := RM) (T := TM) (N := 99) hx hb hts inM hown hK hP 0 rfl rfl 7 (by decide) (hts _ wv_1989) (fun _ h9 => h9) (List.getElem?_set_self (by rw [(List.length_set.trans (List.length_set.trans (List.length_set.trans (List.length_set.trans hfsl))))]; decide)) dM_readLines_49 ?_
  refine lv_if_le (tgt := 62) hx hb dM_readLines_52 (by decide) (fun _ => ?_) (fun c_5 => absurd (by decide) c_5)
  refine lv_iconst (v := (-1)) hx hb dM_readLines_62 (by decide) ?_
  refine lv_istore (lv' := [(5, .int (-1)), (4, .int 0), (3, .int 0), (2, .int 0), (1, .int 0), (0, .ref h0)]) hx hb dM_readLines_63 hl (by decide) rfl (fun ls hl => ?_)
  refine lv_aload_n hx hb dM_readLines_65 rfl (lv_at hl 5 rfl) ?_
  refine va_get (D := D) (ci := 12) (v := .int 0) (C := RM) (T := TM) (N := 99) hx hb hts inM hown hK hP 0 rfl rfl 7 (by decide) (hts _ wv_1989) (fun _ h9 => h9) (List.getElem?_set_self (by rw [(List.length_set.trans (List.length_set.trans (List.length_set.trans (List.length_set.trans hfsl))))]; decide)) dM_readLines_66 ?_
  refine lv_if_ne (tgt := 76) hx hb dM_readLines_69 (by decide) (fun c_6 => absurd (by decide) c_6) (fun _ => ?_)
  refine lv_iconst (v := 1) hx hb dM_readLines_72 (by decide) ?_
  refine lv_goto (tgt := 77) hx hb dM_readLines_73 (by decide) ?_
  refine lv_istore (lv' := [(6, .int 1), (5, .int (-1)), (4, .int 0), (3, .int 0), (2, .int 0), (1, .int 0), (0, .ref h0)]) hx hb dM_readLines_77 hl (by decide) rfl (fun ls hl => ?_)
  refine lv_iload hx hb dM_readLines_79 (lv_at hl 0 rfl) ?_
  refine lv_if_ne (tgt := 103) hx hb dM_readLines_81 (by decide) (fun _ => ?_) (fun c_7 => absurd c_7 (by decide))
  refine lv_iload hx hb dM_readLines_103 (lv_at hl 0 rfl) ?_
  refine lv_if_ne (tgt := 129) hx hb dM_readLines_105 (by decide) (fun _ => ?_) (fun c_8 => absurd c_8 (by decide))
  refine lv_iload hx hb dM_readLines_129 (lv_at hl 0 rfl) ?_
  refine lv_if_ne (tgt := 153) hx hb dM_readLines_131 (by decide) (fun _ => ?_) (fun c_9 => absurd c_9 (by decide))
  refine lv_iload hx hb dM_readLines_153 (lv_at hl 0 rfl) ?_
  refine lv_if_ne (tgt := 182) hx hb dM_readLines_155 (by decide) (fun _ => ?_) (fun c_10 => absurd c_10 (by decide))
  refine lv_iload hx hb dM_readLines_182 (lv_at hl 0 rfl) ?_
  refine lv_if_ne (tgt := 205) hx hb dM_readLines_184 (by decide) (fun _ => ?_) (fun c_11 => absurd c_11 (by decide))
  refine lv_iload hx hb dM_readLines_205 (lv_at hl 0 rfl) ?_
  refine lv_if_ne (tgt := 216) hx hb dM_readLines_207 (by decide) (fun _ => ?_) (fun c_12 => absurd c_12 (by decide))
  refine lv_iload hx hb dM_readLines_216 (lv_at hl 2 rfl) ?_
  refine lv_iconst (v := 1) hx hb dM_readLines_218 (by decide) ?_
  refine lv_iadd hx hb dM_readLines_219 ?_
  refine lv_topi (fun x_13 ex_13 => ?_)
  obtain rfl : x_13 = 1 := ex_13.trans (by decide +kernel)
  refine lv_istore_n (lv' := [(3, .int 1), (6, .int 1), (5, .int (-1)), (4, .int 0), (2, .int 0), (1, .int 0), (0, .ref h0)]) hx hb dM_readLines_220 rfl hl (by decide) rfl (fun ls hl => ?_)
  refine lv_iinc (v := 1) (lv' := [(2, .int 1), (3, .int 1), (6, .int 1), (5, .int (-1)), (4, .int 0), (1, .int 0), (0, .ref h0)]) hx hb dM_readLines_221 hl (k := 4) rfl (by decide) (by decide) rfl (fun ls hl => ?_)
  refine lv_goto (tgt := 26) hx hb dM_readLines_224 (by decide) ?_
  refine lv_iload_n hx hb dM_readLines_26 rfl (lv_at hl 1 rfl) ?_
  refine lv_aload_n hx hb dM_readLines_27 rfl (lv_at hl 6 rfl) ?_
  refine va_get (D := D) (ci := 12) (v := .int 0) (C := RM) (T := TM) (N := 99) hx hb hts inM hown hK hP 0 rfl rfl 2 (by decide) (hts _ wv_1984) (fun _ h9 => h9) (by rw [List.getElem?_set_ne (by decide)]; exact (by rw [List.getElem?_set_ne (by decide)]; exact (by rw [List.getElem?_set_ne (by decide)]; exact (by rw [List.getElem?_set_ne (by decide)]; exact (by rw [List.getElem?_set_ne (by decide)]; exact hfs_size))))) dM_readLines_28 ?_
  refine lv_icmp_gt (tgt := 227) hx hb dM_readLines_31 (by decide) (fun _ => ?_) (fun c_14 => absurd (by decide) c_14)
  refine lv_iload_n hx hb dM_readLines_227 rfl (lv_at hl 5 rfl) ?_
  refine lv_iconst (v := 3) hx hb dM_readLines_228 (by decide) ?_
  refine lv_icmp_ge (tgt := 238) hx hb dM_readLines_229 (by decide) (fun c_15 => absurd c_15 (by decide)) (fun _ => ?_)
  refine lv_aload_n hx hb dM_readLines_232 rfl (lv_at hl 6 rfl) ?_
  refine lv_iconst (v := 1) hx hb dM_readLines_233 (by decide) ?_
  refine lv_iload_n hx hb dM_readLines_234 rfl (lv_at hl 0 rfl) ?_
  refine cf_callv (wc := [(h0, .inr (12, (((((fs.set 5 (.int 0)).set 6 (.int (-1))).set 10 (.int 0)).set 17 (.int 0)).set 7 (.int 0))))]) (wr := []) (va_runV (As := [.int 1, .int 1]) (rest := []) ⟨hx, hb, hml, hown, hts⟩ (kM_fail0 l D K _ h0 (((((fs.set 5 (.int 0)).set 6 (.int (-1))).set 10 (.int 0)).set 17 (.int 0)).set 7 (.int 0)) 1 1 (List.length_set.trans (List.length_set.trans (List.length_set.trans (List.length_set.trans (List.length_set.trans hfsl))))) (by rw [List.getElem?_set_ne (by decide)]; exact (by rw [List.getElem?_set_ne (by decide)]; exact (by rw [List.getElem?_set_ne (by decide)]; exact (by rw [List.getElem?_set_ne (by decide)]; exact (List.getElem?_set_self (by rw [hfsl]; decide))))))) (cwV 2 hts (cf_GV wv_2328 wv_2330 wv_70 wv_173 wv_2331) rfl rfl rfl (by decide +kernel) ⟨Nat.le_of_ble_eq_true rfl, Nat.le_of_ble_eq_true rfl⟩) (cf_preV (wc := [(h0, .inr (12, (((((fs.set 5 (.int 0)).set 6 (.int (-1))).set 10 (.int 0)).set 17 (.int 0)).set 7 (.int 0))))]) hE hP hD hS hA rfl 0 rfl [0] rfl (by decide +kernel)) rfl rfl hl.1 rfl (lv_room (Nat.le_of_ble_eq_true rfl)) dM_readLines_235 ⟨Nat.le_of_ble_eq_true rfl, Nat.le_of_ble_eq_true rfl⟩) hP hD hS hA [0] [] rfl rfl (by decide +kernel) (by decide +kernel) (fun _ H locs hw_16 hP hD hS => ?_)
  have hP : va_P D vwCl [(h0, .inr (12, (((((((fs.set 5 (.int 0)).set 6 (.int (-1))).set 10 (.int 0)).set 17 (.int 0)).set 7 (.int 0)).set 5 (.int 1)).set 6 (.int 1))))] H := hP
  have hD : va_D A [(h0, .inr (12, (((((((fs.set 5 (.int 0)).set 6 (.int (-1))).set 10 (.int 0)).set 17 (.int 0)).set 7 (.int 0)).set 5 (.int 1)).set 6 (.int 1))))] := hD
  exact cf_vret hx hb hr hlocks () trivial hP hD hS [0] rfl (by decide +kernel) (Nat.le_of_ble_eq_true rfl) (Nat.le_of_ble_eq_true rfl) dM_readLines_238
set_option maxHeartbeats 4000000 in
set_option maxRecDepth 100000 in
/-- read -/
theorem kM_read0 (l : Launch) (D : va_G) (K : Nat → ClassId) (sz : Nat) (h0 : Nat) (fs : List Value) (hfsl : fs.length = 99) (hfs_size : fs[2]? = some (.int 0)) (hfs_line : fs[6]? = some (.int 0)) : Met l yM_read (Cond.code yM_read cM_read 3 (Option.some Jvm.ClassFile.FieldType.int) :: cfB) ({ frames := 2, cells := 0, slots := 0, locals := 50 }) (va_Pc [.ref h0] (cf_Pre D K sz [(h0, .inr (12, fs))])) (va_Qi (fun (r : Int32) (_ : Unit) => r = 1) (fun (_ : Unit) t => cf_At D (va_A [(h0, .inr (12, fs))] sz) [(h0, .inr (12, (((((((((fs.set 0 (.int 0)).set 5 (.int 0)).set 6 (.int (-1))).set 10 (.int 0)).set 17 (.int 0)).set 7 (.int 0)).set 5 (.int 1)).set 6 (.int 1)).set 3 (.int 1))))] t) (va_A [(h0, .inr (12, fs))] sz)) 0 0 (va_A [(h0, .inr (12, fs))] sz) := by
  refine cf_ofW (y := yM_read) (As := [.ref h0]) (WS := [(h0, .inr (12, fs))]) (maxL := 3) (fun A => (va_Qi (fun (r : Int32) (_ : Unit) => r = 1) (fun (_ : Unit) t => cf_At D A [(h0, .inr (12, (((((((((fs.set 0 (.int 0)).set 5 (.int 0)).set 6 (.int (-1))).set 10 (.int 0)).set 17 (.int 0)).set 7 (.int 0)).set 5 (.int 1)).set 6 (.int 1)).set 3 (.int 1))))] t) A)) (by decide) (Nat.le_of_ble_eq_true rfl) ?_
  intro p e s m below meth c A ls En hsz hA hP hD hE hS hl
  obtain ⟨hx, hb, hr, hts, hown, hlocks, hin, hml⟩ := En
  have hK := hE.k
  have hl : lv_has ls 3 [(0, .ref h0)] := hl
  refine lv_aload_n hx hb dM_read_0 rfl (lv_at hl 0 rfl) ?_
  refine lv_iconst (v := 0) hx hb dM_read_1 (by decide) ?_
  refine va_put (D := D) (ci := 12) (v := .int 0) (ty := .int) (C := RM) (T := TM) (N := 99) hx hb hts inM tyM tyokM nmM hown hK hP hD hS 0 rfl rfl 0 (by decide) (hts _ wv_1982) (fun _ h9 => h9) rfl (by decide +kernel) rfl rfl (by rw [hfsl]; decide) dM_read_2 (fun H locs hP hD hS => ?_)
  have hP : va_P D vwCl [(h0, .inr (12, (fs.set 0 (.int 0))))] H := hP
  have hD : va_D A [(h0, .inr (12, (fs.set 0 (.int 0))))] := hD
  refine lv_aload_n hx hb dM_read_5 rfl (lv_at hl 0 rfl) ?_
  refine va_get (D := D) (ci := 12) (v := .int 0) (C := RM) (T := TM) (N := 99) hx hb hts inM hown hK hP 0 rfl rfl 6 (by decide) (hts _ wv_1988) (fun _ h9 => h9) (by rw [List.getElem?_set_ne (by decide)]; exact hfs_line) dM_read_6 ?_
  refine lv_istore_n (lv' := [(1, .int 0), (0, .ref h0)]) hx hb dM_read_9 rfl hl (by decide) rfl (fun ls hl => ?_)
  refine lv_aload_n hx hb dM_read_10 rfl (lv_at hl 1 rfl) ?_
  refine cf_callv (wc := [(h0, .inr (12, (fs.set 0 (.int 0))))]) (wr := []) (va_runV (As := []) (rest := []) ⟨hx, hb, hml, hown, hts⟩ (kM_readLines0 l D K _ h0 (fs.set 0 (.int 0)) (List.length_set.trans hfsl) (by rw [List.getElem?_set_ne (by decide)]; exact hfs_size)) (cwV 0 hts (cf_GV wv_2303 wv_2305 wv_64 wv_173 wv_2306) rfl rfl rfl (by decide +kernel) ⟨Nat.le_of_ble_eq_true rfl, Nat.le_of_ble_eq_true rfl⟩) (cf_preV (wc := [(h0, .inr (12, (fs.set 0 (.int 0))))]) hE hP hD hS hA rfl 0 rfl [0] rfl (by decide +kernel)) rfl rfl hl.1 rfl (lv_room (Nat.le_of_ble_eq_true rfl)) dM_read_11 ⟨Nat.le_of_ble_eq_true rfl, Nat.le_of_ble_eq_true rfl⟩) hP hD hS hA [0] [] rfl rfl (by decide +kernel) (by decide +kernel) (fun _ H locs hw_1 hP hD hS => ?_)
  have hP : va_P D vwCl [(h0, .inr (12, ((((((((fs.set 0 (.int 0)).set 5 (.int 0)).set 6 (.int (-1))).set 10 (.int 0)).set 17 (.int 0)).set 7 (.int 0)).set 5 (.int 1)).set 6 (.int 1))))] H := hP
  have hD : va_D A [(h0, .inr (12, ((((((((fs.set 0 (.int 0)).set 5 (.int 0)).set 6 (.int (-1))).set 10 (.int 0)).set 17 (.int 0)).set 7 (.int 0)).set 5 (.int 1)).set 6 (.int 1))))] := hD
  refine lv_aload_n hx hb dM_read_14 rfl (lv_at hl 1 rfl) ?_
  refine va_get (D := D) (ci := 12) (v := .int 1) (C := RM) (T := TM) (N := 99) hx hb hts inM hown hK hP 0 rfl rfl 5 (by decide) (hts _ wv_1987) (fun _ h9 => h9) (by rw [List.getElem?_set_ne (by decide)]; exact (List.getElem?_set_self (by rw [(List.length_set.trans (List.length_set.trans (List.length_set.trans (List.length_set.trans (List.length_set.trans (List.length_set.trans hfsl))))))]; decide))) dM_read_15 ?_
  refine lv_if_ne (tgt := 25) hx hb dM_read_18 (by decide) (fun _ => ?_) (fun c_2 => absurd c_2 (by decide))
  refine lv_iconst (v := 0) hx hb dM_read_25 (by decide) ?_
  refine lv_istore_n (lv' := [(2, .int 0), (1, .int 0), (0, .ref h0)]) hx hb dM_read_26 rfl hl (by decide) rfl (fun ls hl => ?_)
  refine lv_iload_n hx hb dM_read_27 rfl (lv_at hl 0 rfl) ?_
  refine lv_aload_n hx hb dM_read_28 rfl (lv_at hl 2 rfl) ?_
  refine va_get (D := D) (ci := 12) (v := .int 0) (C := RM) (T := TM) (N := 99) hx hb hts inM hown hK hP 0 rfl rfl 17 (by decide) (hts _ wv_1999) (fun _ h9 => h9) (by rw [List.getElem?_set_ne (by decide)]; exact (by rw [List.getElem?_set_ne (by decide)]; exact (by rw [List.getElem?_set_ne (by decide)]; exact (List.getElem?_set_self (by rw [(List.length_set.trans (List.length_set.trans (List.length_set.trans (List.length_set.trans hfsl))))]; decide))))) dM_read_29 ?_
  refine lv_icmp_ge (tgt := 67) hx hb dM_read_32 (by decide) (fun _ => ?_) (fun c_3 => absurd (by decide) c_3)
  refine lv_aload_n hx hb dM_read_67 rfl (lv_at hl 2 rfl) ?_
  refine va_get (D := D) (ci := 12) (v := .int 1) (C := RM) (T := TM) (N := 99) hx hb hts inM hown hK hP 0 rfl rfl 5 (by decide) (hts _ wv_1987) (fun _ h9 => h9) (by rw [List.getElem?_set_ne (by decide)]; exact (List.getElem?_set_self (by rw [(List.length_set.trans (List.length_set.trans (List.length_set.trans (List.length_set.trans (List.length_set.trans (List.length_set.trans hfsl))))))]; decide))) dM_read_68 ?_
  refine lv_if_le (tgt := 87) hx hb dM_read_71 (by decide) (fun c_4 => absurd c_4 (by decide)) (fun _ => ?_)
  refine lv_aload_n hx hb dM_read_74 rfl (lv_at hl 2 rfl) ?_
  refine lv_aload_n hx hb dM_read_75 rfl (lv_at hl 2 rfl) ?_
  refine va_get (D := D) (ci := 12) (v := .int 1) (C := RM) (T := TM) (N := 99) hx hb hts inM hown hK hP 0 rfl rfl 6 (by decide) (hts _ wv_1988) (fun _ h9 => h9) (List.getElem?_set_self (by rw [(List.length_set.trans (List.length_set.trans (List.length_set.trans (List.length_set.trans (List.length_set.trans (List.length_set.trans (List.length_set.trans hfsl)))))))]; decide)) dM_read_76 ?_
  refine va_put (D := D) (ci := 12) (v := .int 1) (ty := .int) (C := RM) (T := TM) (N := 99) hx hb hts inM tyM tyokM nmM hown hK hP hD hS 0 rfl rfl 3 (by decide) (hts _ wv_1985) (fun _ h9 => h9) rfl (by decide +kernel) rfl rfl (by rw [(List.length_set.trans (List.length_set.trans (List.length_set.trans (List.length_set.trans (List.length_set.trans (List.length_set.trans (List.length_set.trans (List.length_set.trans hfsl))))))))]; decide) dM_read_79 (fun H locs hP hD hS => ?_)
  have hP : va_P D vwCl [(h0, .inr (12, (((((((((fs.set 0 (.int 0)).set 5 (.int 0)).set 6 (.int (-1))).set 10 (.int 0)).set 17 (.int 0)).set 7 (.int 0)).set 5 (.int 1)).set 6 (.int 1)).set 3 (.int 1))))] H := hP
  have hD : va_D A [(h0, .inr (12, (((((((((fs.set 0 (.int 0)).set 5 (.int 0)).set 6 (.int (-1))).set 10 (.int 0)).set 17 (.int 0)).set 7 (.int 0)).set 5 (.int 1)).set 6 (.int 1)).set 3 (.int 1))))] := hD
  refine lv_aload_n hx hb dM_read_82 rfl (lv_at hl 2 rfl) ?_
  refine va_get (D := D) (ci := 12) (v := .int 1) (C := RM) (T := TM) (N := 99) hx hb hts inM hown hK hP 0 rfl rfl 5 (by decide) (hts _ wv_1987) (fun _ h9 => h9) (by rw [List.getElem?_set_ne (by decide)]; exact (by rw [List.getElem?_set_ne (by decide)]; exact (List.getElem?_set_self (by rw [(List.length_set.trans (List.length_set.trans (List.length_set.trans (List.length_set.trans (List.length_set.trans (List.length_set.trans hfsl))))))]; decide)))) dM_read_83 ?_
  exact cf_iret hx hb hr hlocks () rfl hP hD hS [0] rfl (by decide +kernel) (Nat.le_of_ble_eq_true rfl) (Nat.le_of_ble_eq_true rfl) dM_read_86
set_option maxHeartbeats 4000000 in
set_option maxRecDepth 100000 in
/-- readLibrary -/
theorem kM_readLibrary0 (l : Launch) (D : va_G) (K : Nat → ClassId) (sz : Nat) (h0 : Nat) (fs : List Value) (hfsl : fs.length = 99) (hfs_size : fs[2]? = some (.int 0)) : Met l yM_readLibrary (Cond.code yM_readLibrary cM_readLibrary 6 (Option.none : Option Jvm.ClassFile.FieldType) :: cfB) ({ frames := 1, cells := 0, slots := 0, locals := 24 }) (va_Pc [.ref h0] (cf_Pre D K sz [(h0, .inr (12, fs))])) (va_Qv (fun (_ : Unit) => True) (fun (_ : Unit) t => cf_At D (va_A [(h0, .inr (12, fs))] sz) [(h0, .inr (12, ((((((fs.set 5 (.int 0)).set 6 (.int (-1))).set 79 (.int 0)).set 7 (.int 0)).set 5 (.int 1)).set 6 (.int 1))))] t) (va_A [(h0, .inr (12, fs))] sz)) 0 0 (va_A [(h0, .inr (12, fs))] sz) := by
  refine cf_ofW (y := yM_readLibrary) (As := [.ref h0]) (WS := [(h0, .inr (12, fs))]) (maxL := 6) (fun A => (va_Qv (fun (_ : Unit) => True) (fun (_ : Unit) t => cf_At D A [(h0, .inr (12, ((((((fs.set 5 (.int 0)).set 6 (.int (-1))).set 79 (.int 0)).set 7 (.int 0)).set 5 (.int 1)).set 6 (.int 1))))] t) A)) (by decide) (Nat.le_of_ble_eq_true rfl) ?_
  intro p e s m below meth c A ls En hsz hA hP hD hE hS hl
  obtain ⟨hx, hb, hr, hts, hown, hlocks, hin, hml⟩ := En
  have hK := hE.k
  have hl : lv_has ls 6 [(0, .ref h0)] := hl
  refine lv_aload_n hx hb dM_readLibrary_0 rfl (lv_at hl 0 rfl) ?_
  refine lv_iconst (v := 0) hx hb dM_readLibrary_1 (by decide) ?_
  refine va_put (D := D) (ci := 12) (v := .int 0) (ty := .int) (C := RM) (T := TM) (N := 99) hx hb hts inM tyM tyokM nmM hown hK hP hD hS 0 rfl rfl 5 (by decide) (hts _ wv_1987) (fun _ h9 => h9) rfl (by decide +kernel) rfl rfl (by rw [hfsl]; decide) dM_readLibrary_2 (fun H locs hP hD hS => ?_)
  have hP : va_P D vwCl [(h0, .inr (12, (fs.set 5 (.int 0))))] H := hP
  have hD : va_D A [(h0, .inr (12, (fs.set 5 (.int 0))))] := hD
  refine lv_aload_n hx hb dM_readLibrary_5 rfl (lv_at hl 0 rfl) ?_
  refine lv_iconst (v := (-1)) hx hb dM_readLibrary_6 (by decide) ?_
  refine va_put (D := D) (ci := 12) (v := .int (-1)) (ty := .int) (C := RM) (T := TM) (N := 99) hx hb hts inM tyM tyokM nmM hown hK hP hD hS 0 rfl rfl 6 (by decide) (hts _ wv_1988) (fun _ h9 => h9) rfl (by decide +kernel) rfl rfl (by rw [(List.length_set.trans hfsl)]; decide) dM_readLibrary_7 (fun H locs hP hD hS => ?_)
  have hP : va_P D vwCl [(h0, .inr (12, ((fs.set 5 (.int 0)).set 6 (.int (-1)))))] H := hP
  have hD : va_D A [(h0, .inr (12, ((fs.set 5 (.int 0)).set 6 (.int (-1)))))] := hD
  refine lv_aload_n hx hb dM_readLibrary_10 rfl (lv_at hl 0 rfl) ?_
  refine lv_iconst (v := 0) hx hb dM_readLibrary_11 (by decide) ?_
  refine va_put (D := D) (ci := 12) (v := .int 0) (ty := .int) (C := RM) (T := TM) (N := 99) hx hb hts inM tyM tyokM nmM hown hK hP hD hS 0 rfl rfl 79 (by decide) (hts _ wv_2061) (fun _ h9 => h9) rfl (by decide +kernel) rfl rfl (by rw [(List.length_set.trans (List.length_set.trans hfsl))]; decide) dM_readLibrary_12 (fun H locs hP hD hS => ?_)
  have hP : va_P D vwCl [(h0, .inr (12, (((fs.set 5 (.int 0)).set 6 (.int (-1))).set 79 (.int 0))))] H := hP
  have hD : va_D A [(h0, .inr (12, (((fs.set 5 (.int 0)).set 6 (.int (-1))).set 79 (.int 0))))] := hD
  refine lv_iconst (v := 0) hx hb dM_readLibrary_15 (by decide) ?_
  refine lv_istore_n (lv' := [(1, .int 0), (0, .ref h0)]) hx hb dM_readLibrary_16 rfl hl (by decide) rfl (fun ls hl => ?_)
  refine lv_iconst (v := 0) hx hb dM_readLibrary_17 (by decide) ?_
  refine lv_istore_n (lv' := [(2, .int 0), (1, .int 0), (0, .ref h0)]) hx hb dM_readLibrary_18 rfl hl (by decide) rfl (fun ls hl => ?_)
  refine lv_iconst (v := 0) hx hb dM_readLibrary_19 (by decide) ?_
  refine lv_istore_n (lv' := [(3, .int 0), (2, .int 0), (1, .int 0), (0, .ref h0)]) hx hb dM_readLibrary_20 rfl hl (by decide) rfl (fun ls hl => ?_)
  refine lv_iload_n hx hb dM_readLibrary_21 rfl (lv_at hl 0 rfl) ?_
  refine lv_aload_n hx hb dM_readLibrary_22 rfl (lv_at hl 3 rfl) ?_
  refine va_get (D := D) (ci := 12) (v := .int 0) (C := RM) (T := TM) (N := 99) hx hb hts inM hown hK hP 0 rfl rfl 2 (by decide) (hts _ wv_1984) (fun _ h9 => h9) (by rw [List.getElem?_set_ne (by decide)]; exact (by rw [List.getElem?_set_ne (by decide)]; exact (by rw [List.getElem?_set_ne (by decide)]; exact hfs_size))) dM_readLibrary_23 ?_
  refine lv_icmp_gt (tgt := 129) hx hb dM_readLibrary_26 (by decide) (fun c_1 => absurd c_1 (by decide)) (fun _ => ?_)
  refine lv_aload_n hx hb dM_readLibrary_29 rfl (lv_at hl 3 rfl) ?_
  refine va_get (D := D) (ci := 12) (v := .int 0) (C := RM) (T := TM) (N := 99) hx hb hts inM hown hK hP 0 rfl rfl 5 (by decide) (hts _ wv_1987) (fun _ h9 => h9) (by rw [List.getElem?_set_ne (by decide)]; exact (by rw [List.getElem?_set_ne (by decide)]; exact (List.getElem?_set_self (by rw [hfsl]; decide)))) dM_readLibrary_30 ?_
  refine lv_if_ne (tgt := 129) hx hb dM_readLibrary_33 (by decide) (fun c_2 => absurd (by decide) c_2) (fun _ => ?_)
  refine lv_aload_n hx hb dM_readLibrary_36 rfl (lv_at hl 3 rfl) ?_
  refine lv_iload_n hx hb dM_readLibrary_37 rfl (lv_at hl 0 rfl) ?_
  refine cf_calli (wc := [(h0, .inr (12, (((fs.set 5 (.int 0)).set 6 (.int (-1))).set 79 (.int 0))))]) (wr := []) (va_runV (As := [.int 0]) (rest := []) ⟨hx, hb, hml, hown, hts⟩ (kM_takeLine0 l D K _ h0 (((fs.set 5 (.int 0)).set 6 (.int (-1))).set 79 (.int 0)) (List.length_set.trans (List.length_set.trans (List.length_set.trans hfsl))) (by rw [List.getElem?_set_ne (by decide)]; exact (by rw [List.getElem?_set_ne (by decide)]; exact (by rw [List.getElem?_set_ne (by decide)]; exact hfs_size)))) (cwV 1 hts (cf_GV wv_2307 wv_2309 wv_65 wv_173 wv_2310) rfl rfl rfl (by decide +kernel) ⟨Nat.le_of_ble_eq_true rfl, Nat.le_of_ble_eq_true rfl⟩) (cf_preV (wc := [(h0, .inr (12, (((fs.set 5 (.int 0)).set 6 (.int (-1))).set 79 (.int 0))))]) hE hP hD hS hA rfl 0 rfl [0] rfl (by decide +kernel)) rfl rfl hl.1 rfl (lv_room (Nat.le_of_ble_eq_true rfl)) dM_readLibrary_38 ⟨Nat.le_of_ble_eq_true rfl, Nat.le_of_ble_eq_true rfl⟩) hP hD hS hA [0] [] rfl rfl (by decide +kernel) (by decide +kernel) (fun r_3 _ H locs hw_4 hP hD hS => ?_)
  have hP : va_P D vwCl [(h0, .inr (12, ((((fs.set 5 (.int 0)).set 6 (.int (-1))).set 79 (.int 0)).set 7 (.int 0))))] H := hP
  have hD : va_D A [(h0, .inr (12, ((((fs.set 5 (.int 0)).set 6 (.int (-1))).set 79 (.int 0)).set 7 (.int 0))))] := hD
  subst hw_4
  refine lv_istore (lv' := [(4, .int 0), (3, .int 0), (2, .int 0), (1, .int 0), (0, .ref h0)]) hx hb dM_readLibrary_41 hl (by decide) rfl (fun ls hl => ?_)
  refine lv_aload_n hx hb dM_readLibrary_43 rfl (lv_at hl 4 rfl) ?_
  refine va_get (D := D) (ci := 12) (v := .int 0) (C := RM) (T := TM) (N := 99) hx hb hts inM hown hK hP 0 rfl rfl 7 (by decide) (hts _ wv_1989) (fun _ h9 => h9) (List.getElem?_set_self (by rw [(List.length_set.trans (List.length_set.trans (List.length_set.trans hfsl)))]; decide)) dM_readLibrary_44 ?_
  refine lv_if_ne (tgt := 54) hx hb dM_readLibrary_47 (by decide) (fun c_5 => absurd (by decide) c_5) (fun _ => ?_)
  refine lv_iconst (v := 1) hx hb dM_readLibrary_50 (by decide) ?_
  refine lv_goto (tgt := 55) hx hb dM_readLibrary_51 (by decide) ?_
  refine lv_istore (lv' := [(5, .int 1), (4, .int 0), (3, .int 0), (2, .int 0), (1, .int 0), (0, .ref h0)]) hx hb dM_readLibrary_55 hl (by decide) rfl (fun ls hl => ?_)
  refine lv_iload hx hb dM_readLibrary_57 (lv_at hl 0 rfl) ?_
  refine lv_if_ne (tgt := 75) hx hb dM_readLibrary_59 (by decide) (fun _ => ?_) (fun c_6 => absurd c_6 (by decide))
  refine lv_iload hx hb dM_readLibrary_75 (lv_at hl 0 rfl) ?_
  refine lv_if_ne (tgt := 108) hx hb dM_readLibrary_77 (by decide) (fun _ => ?_) (fun c_7 => absurd c_7 (by decide))
  refine lv_iload hx hb dM_readLibrary_108 (lv_at hl 0 rfl) ?_
  refine lv_if_ne (tgt := 118) hx hb dM_readLibrary_110 (by decide) (fun _ => ?_) (fun c_8 => absurd c_8 (by decide))
  refine lv_iload hx hb dM_readLibrary_118 (lv_at hl 1 rfl) ?_
  refine lv_iconst (v := 1) hx hb dM_readLibrary_120 (by decide) ?_
  refine lv_iadd hx hb dM_readLibrary_121 ?_
  refine lv_topi (fun x_9 ex_9 => ?_)
  obtain rfl : x_9 = 1 := ex_9.trans (by decide +kernel)
  refine lv_istore_n (lv' := [(3, .int 1), (5, .int 1), (4, .int 0), (2, .int 0), (1, .int 0), (0, .ref h0)]) hx hb dM_readLibrary_122 rfl hl (by decide) rfl (fun ls hl => ?_)
  refine lv_iinc (v := 1) (lv' := [(2, .int 1), (3, .int 1), (5, .int 1), (4, .int 0), (1, .int 0), (0, .ref h0)]) hx hb dM_readLibrary_123 hl (k := 3) rfl (by decide) (by decide) rfl (fun ls hl => ?_)
  refine lv_goto (tgt := 21) hx hb dM_readLibrary_126 (by decide) ?_
  refine lv_iload_n hx hb dM_readLibrary_21 rfl (lv_at hl 1 rfl) ?_
  refine lv_aload_n hx hb dM_readLibrary_22 rfl (lv_at hl 5 rfl) ?_
  refine va_get (D := D) (ci := 12) (v := .int 0) (C := RM) (T := TM) (N := 99) hx hb hts inM hown hK hP 0 rfl rfl 2 (by decide) (hts _ wv_1984) (fun _ h9 => h9) (by rw [List.getElem?_set_ne (by decide)]; exact (by rw [List.getElem?_set_ne (by decide)]; exact (by rw [List.getElem?_set_ne (by decide)]; exact (by rw [List.getElem?_set_ne (by decide)]; exact hfs_size)))) dM_readLibrary_23 ?_
  refine lv_icmp_gt (tgt := 129) hx hb dM_readLibrary_26 (by decide) (fun _ => ?_) (fun c_10 => absurd (by decide) c_10)
  refine lv_iload_n hx hb dM_readLibrary_129 rfl (lv_at hl 4 rfl) ?_
  refine lv_if_ne (tgt := 139) hx hb dM_readLibrary_130 (by decide) (fun c_11 => absurd (by decide) c_11) (fun _ => ?_)
  refine lv_aload_n hx hb dM_readLibrary_133 rfl (lv_at hl 5 rfl) ?_
  refine lv_iconst (v := 1) hx hb dM_readLibrary_134 (by decide) ?_
  refine lv_iload_n hx hb dM_readLibrary_135 rfl (lv_at hl 0 rfl) ?_
  refine cf_callv (wc := [(h0, .inr (12, ((((fs.set 5 (.int 0)).set 6 (.int (-1))).set 79 (.int 0)).set 7 (.int 0))))]) (wr := []) (va_runV (As := [.int 1, .int 1]) (rest := []) ⟨hx, hb, hml, hown, hts⟩ (kM_fail0 l D K _ h0 ((((fs.set 5 (.int 0)).set 6 (.int (-1))).set 79 (.int 0)).set 7 (.int 0)) 1 1 (List.length_set.trans (List.length_set.trans (List.length_set.trans (List.length_set.trans hfsl)))) (by rw [List.getElem?_set_ne (by decide)]; exact (by rw [List.getElem?_set_ne (by decide)]; exact (by rw [List.getElem?_set_ne (by decide)]; exact (List.getElem?_set_self (by rw [hfsl]; decide)))))) (cwV 2 hts (cf_GV wv_2328 wv_2330 wv_70 wv_173 wv_2331) rfl rfl rfl (by decide +kernel) ⟨Nat.le_of_ble_eq_true rfl, Nat.le_of_ble_eq_true rfl⟩) (cf_preV (wc := [(h0, .inr (12, ((((fs.set 5 (.int 0)).set 6 (.int (-1))).set 79 (.int 0)).set 7 (.int 0))))]) hE hP hD hS hA rfl 0 rfl [0] rfl (by decide +kernel)) rfl rfl hl.1 rfl (lv_room (Nat.le_of_ble_eq_true rfl)) dM_readLibrary_136 ⟨Nat.le_of_ble_eq_true rfl, Nat.le_of_ble_eq_true rfl⟩) hP hD hS hA [0] [] rfl rfl (by decide +kernel) (by decide +kernel) (fun _ H locs hw_12 hP hD hS => ?_)
  have hP : va_P D vwCl [(h0, .inr (12, ((((((fs.set 5 (.int 0)).set 6 (.int (-1))).set 79 (.int 0)).set 7 (.int 0)).set 5 (.int 1)).set 6 (.int 1))))] H := hP
  have hD : va_D A [(h0, .inr (12, ((((((fs.set 5 (.int 0)).set 6 (.int (-1))).set 79 (.int 0)).set 7 (.int 0)).set 5 (.int 1)).set 6 (.int 1))))] := hD
  exact cf_vret hx hb hr hlocks () trivial hP hD hS [0] rfl (by decide +kernel) (Nat.le_of_ble_eq_true rfl) (Nat.le_of_ble_eq_true rfl) dM_readLibrary_139
set_option maxHeartbeats 4000000 in
set_option maxRecDepth 100000 in
/-- library -/
theorem kM_library0 (l : Launch) (D : va_G) (K : Nat → ClassId) (sz : Nat) (h0 : Nat) (fs : List Value) (hfsl : fs.length = 99) (hfs_size : fs[2]? = some (.int 0)) (hfs_line : fs[6]? = some (.int 0)) : Met l yM_library (Cond.code yM_library cM_library 3 (Option.some Jvm.ClassFile.FieldType.int) :: cfB) ({ frames := 2, cells := 0, slots := 0, locals := 49 }) (va_Pc [.ref h0] (cf_Pre D K sz [(h0, .inr (12, fs))])) (va_Qi (fun (r : Int32) (_ : Unit) => r = 1) (fun (_ : Unit) t => cf_At D (va_A [(h0, .inr (12, fs))] sz) [(h0, .inr (12, (((((((((fs.set 0 (.int 0)).set 5 (.int 0)).set 6 (.int (-1))).set 79 (.int 0)).set 7 (.int 0)).set 5 (.int 1)).set 6 (.int 1)).set 3 (.int 1)).set 6 (.int 0))))] t) (va_A [(h0, .inr (12, fs))] sz)) 0 0 (va_A [(h0, .inr (12, fs))] sz) := by
  refine cf_ofW (y := yM_library) (As := [.ref h0]) (WS := [(h0, .inr (12, fs))]) (maxL := 3) (fun A => (va_Qi (fun (r : Int32) (_ : Unit) => r = 1) (fun (_ : Unit) t => cf_At D A [(h0, .inr (12, (((((((((fs.set 0 (.int 0)).set 5 (.int 0)).set 6 (.int (-1))).set 79 (.int 0)).set 7 (.int 0)).set 5 (.int 1)).set 6 (.int 1)).set 3 (.int 1)).set 6 (.int 0))))] t) A)) (by decide) (Nat.le_of_ble_eq_true rfl) ?_
  intro p e s m below meth c A ls En hsz hA hP hD hE hS hl
  obtain ⟨hx, hb, hr, hts, hown, hlocks, hin, hml⟩ := En
  have hK := hE.k
  have hl : lv_has ls 3 [(0, .ref h0)] := hl
  refine lv_aload_n hx hb dM_library_0 rfl (lv_at hl 0 rfl) ?_
  refine lv_iconst (v := 0) hx hb dM_library_1 (by decide) ?_
  refine va_put (D := D) (ci := 12) (v := .int 0) (ty := .int) (C := RM) (T := TM) (N := 99) hx hb hts inM tyM tyokM nmM hown hK hP hD hS 0 rfl rfl 0 (by decide) (hts _ wv_1982) (fun _ h9 => h9) rfl (by decide +kernel) rfl rfl (by rw [hfsl]; decide) dM_library_2 (fun H locs hP hD hS => ?_)
  have hP : va_P D vwCl [(h0, .inr (12, (fs.set 0 (.int 0))))] H := hP
  have hD : va_D A [(h0, .inr (12, (fs.set 0 (.int 0))))] := hD
  refine lv_aload_n hx hb dM_library_5 rfl (lv_at hl 0 rfl) ?_
  refine va_get (D := D) (ci := 12) (v := .int 0) (C := RM) (T := TM) (N := 99) hx hb hts inM hown hK hP 0 rfl rfl 6 (by decide) (hts _ wv_1988) (fun _ h9 => h9) (by rw [List.getElem?_set_ne (by decide)]; exact hfs_line) dM_library_6 ?_
  refine lv_istore_n (lv' := [(1, .int 0), (0, .ref h0)]) hx hb dM_library_9 rfl hl (by decide) rfl (fun ls hl => ?_)
  refine lv_aload_n hx hb dM_library_10 rfl (lv_at hl 1 rfl) ?_
  refine cf_callv (wc := [(h0, .inr (12, (fs.set 0 (.int 0))))]) (wr := []) (va_runV (As := []) (rest := []) ⟨hx, hb, hml, hown, hts⟩ (kM_readLibrary0 l D K _ h0 (fs.set 0 (.int 0)) (List.length_set.trans hfsl) (by rw [List.getElem?_set_ne (by decide)]; exact hfs_size)) (cwV 0 hts (cf_GV wv_2669 wv_2671 wv_133 wv_173 wv_2672) rfl rfl rfl (by decide +kernel) ⟨Nat.le_of_ble_eq_true rfl, Nat.le_of_ble_eq_true rfl⟩) (cf_preV (wc := [(h0, .inr (12, (fs.set 0 (.int 0))))]) hE hP hD hS hA rfl 0 rfl [0] rfl (by decide +kernel)) rfl rfl hl.1 rfl (lv_room (Nat.le_of_ble_eq_true rfl)) dM_library_11 ⟨Nat.le_of_ble_eq_true rfl, Nat.le_of_ble_eq_true rfl⟩) hP hD hS hA [0] [] rfl rfl (by decide +kernel) (by decide +kernel) (fun _ H locs hw_1 hP hD hS => ?_)
  have hP : va_P D vwCl [(h0, .inr (12, (((((((fs.set 0 (.int 0)).set 5 (.int 0)).set 6 (.int (-1))).set 79 (.int 0)).set 7 (.int 0)).set 5 (.int 1)).set 6 (.int 1))))] H := hP
  have hD : va_D A [(h0, .inr (12, (((((((fs.set 0 (.int 0)).set 5 (.int 0)).set 6 (.int (-1))).set 79 (.int 0)).set 7 (.int 0)).set 5 (.int 1)).set 6 (.int 1))))] := hD
  refine lv_aload_n hx hb dM_library_14 rfl (lv_at hl 1 rfl) ?_
  refine lv_aload_n hx hb dM_library_15 rfl (lv_at hl 1 rfl) ?_
  refine va_get (D := D) (ci := 12) (v := .int 1) (C := RM) (T := TM) (N := 99) hx hb hts inM hown hK hP 0 rfl rfl 5 (by decide) (hts _ wv_1987) (fun _ h9 => h9) (by rw [List.getElem?_set_ne (by decide)]; exact (List.getElem?_set_self (by rw [(List.length_set.trans (List.length_set.trans (List.length_set.trans (List.length_set.trans (List.length_set.trans hfsl)))))]; decide))) dM_library_16 ?_
  refine lv_if_le (tgt := 29) hx hb dM_library_19 (by decide) (fun c_2 => absurd c_2 (by decide)) (fun _ => ?_)
  refine lv_aload_n hx hb dM_library_22 rfl (lv_at hl 1 rfl) ?_
  refine va_get (D := D) (ci := 12) (v := .int 1) (C := RM) (T := TM) (N := 99) hx hb hts inM hown hK hP 0 rfl rfl 6 (by decide) (hts _ wv_1988) (fun _ h9 => h9) (List.getElem?_set_self (by rw [(List.length_set.trans (List.length_set.trans (List.length_set.trans (List.length_set.trans (List.length_set.trans (List.length_set.trans hfsl))))))]; decide)) dM_library_23 ?_
  refine lv_goto (tgt := 30) hx hb dM_library_26 (by decide) ?_
  refine va_put (D := D) (ci := 12) (v := .int 1) (ty := .int) (C := RM) (T := TM) (N := 99) hx hb hts inM tyM tyokM nmM hown hK hP hD hS 0 rfl rfl 3 (by decide) (hts _ wv_1985) (fun _ h9 => h9) rfl (by decide +kernel) rfl rfl (by rw [(List.length_set.trans (List.length_set.trans (List.length_set.trans (List.length_set.trans (List.length_set.trans (List.length_set.trans (List.length_set.trans hfsl)))))))]; decide) dM_library_30 (fun H locs hP hD hS => ?_)
  have hP : va_P D vwCl [(h0, .inr (12, ((((((((fs.set 0 (.int 0)).set 5 (.int 0)).set 6 (.int (-1))).set 79 (.int 0)).set 7 (.int 0)).set 5 (.int 1)).set 6 (.int 1)).set 3 (.int 1))))] H := hP
  have hD : va_D A [(h0, .inr (12, ((((((((fs.set 0 (.int 0)).set 5 (.int 0)).set 6 (.int (-1))).set 79 (.int 0)).set 7 (.int 0)).set 5 (.int 1)).set 6 (.int 1)).set 3 (.int 1))))] := hD
  refine lv_aload_n hx hb dM_library_33 rfl (lv_at hl 1 rfl) ?_
  refine lv_iload_n hx hb dM_library_34 rfl (lv_at hl 0 rfl) ?_
  refine va_put (D := D) (ci := 12) (v := .int 0) (ty := .int) (C := RM) (T := TM) (N := 99) hx hb hts inM tyM tyokM nmM hown hK hP hD hS 0 rfl rfl 6 (by decide) (hts _ wv_1988) (fun _ h9 => h9) rfl (by decide +kernel) rfl rfl (by rw [(List.length_set.trans (List.length_set.trans (List.length_set.trans (List.length_set.trans (List.length_set.trans (List.length_set.trans (List.length_set.trans (List.length_set.trans hfsl))))))))]; decide) dM_library_35 (fun H locs hP hD hS => ?_)
  have hP : va_P D vwCl [(h0, .inr (12, (((((((((fs.set 0 (.int 0)).set 5 (.int 0)).set 6 (.int (-1))).set 79 (.int 0)).set 7 (.int 0)).set 5 (.int 1)).set 6 (.int 1)).set 3 (.int 1)).set 6 (.int 0))))] H := hP
  have hD : va_D A [(h0, .inr (12, (((((((((fs.set 0 (.int 0)).set 5 (.int 0)).set 6 (.int (-1))).set 79 (.int 0)).set 7 (.int 0)).set 5 (.int 1)).set 6 (.int 1)).set 3 (.int 1)).set 6 (.int 0))))] := hD
  refine lv_aload_n hx hb dM_library_38 rfl (lv_at hl 1 rfl) ?_
  refine va_get (D := D) (ci := 12) (v := .int 1) (C := RM) (T := TM) (N := 99) hx hb hts inM hown hK hP 0 rfl rfl 5 (by decide) (hts _ wv_1987) (fun _ h9 => h9) (by rw [List.getElem?_set_ne (by decide)]; exact (by rw [List.getElem?_set_ne (by decide)]; exact (by rw [List.getElem?_set_ne (by decide)]; exact (List.getElem?_set_self (by rw [(List.length_set.trans (List.length_set.trans (List.length_set.trans (List.length_set.trans (List.length_set.trans hfsl)))))]; decide))))) dM_library_39 ?_
  refine lv_if_le (tgt := 50) hx hb dM_library_42 (by decide) (fun c_3 => absurd c_3 (by decide)) (fun _ => ?_)
  refine lv_aload_n hx hb dM_library_45 rfl (lv_at hl 1 rfl) ?_
  refine va_get (D := D) (ci := 12) (v := .int 1) (C := RM) (T := TM) (N := 99) hx hb hts inM hown hK hP 0 rfl rfl 5 (by decide) (hts _ wv_1987) (fun _ h9 => h9) (by rw [List.getElem?_set_ne (by decide)]; exact (by rw [List.getElem?_set_ne (by decide)]; exact (by rw [List.getElem?_set_ne (by decide)]; exact (List.getElem?_set_self (by rw [(List.length_set.trans (List.length_set.trans (List.length_set.trans (List.length_set.trans (List.length_set.trans hfsl)))))]; decide))))) dM_library_46 ?_
  exact cf_iret hx hb hr hlocks () rfl hP hD hS [0] rfl (by decide +kernel) (Nat.le_of_ble_eq_true rfl) (Nat.le_of_ble_eq_true rfl) dM_library_49

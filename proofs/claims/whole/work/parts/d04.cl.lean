def ySc_close : MethodName := ⟨"CellForge$Script", "close", "()V"⟩
abbrev cSc_close : ByteArray := prog_11_method_8_code
theorem dSc_close_0 : decode cSc_close 0 = .ok (.aload_n 0, 1) := by decide +kernel
theorem dSc_close_1 : decode cSc_close 1 = .ok (.getfield 12, 3) := by decide +kernel
theorem dSc_close_4 : decode cSc_close 4 = .ok (.ldc 82, 2) := by decide +kernel
theorem dSc_close_6 : decode cSc_close 6 = .ok (.invokevirtual 32, 3) := by decide +kernel
theorem dSc_close_9 : decode cSc_close 9 = .ok (.pop, 1) := by decide +kernel
theorem dSc_close_10 : decode cSc_close 10 = .ok (.aload_n 0, 1) := by decide +kernel
theorem dSc_close_11 : decode cSc_close 11 = .ok (.iconst 1, 1) := by decide +kernel
theorem dSc_close_12 : decode cSc_close 12 = .ok (.putfield 84, 3) := by decide +kernel
theorem dSc_close_15 : decode cSc_close 15 = .ok (.return_, 1) := by decide +kernel
theorem wv_467 : Cond.fieldLink "CellForge$Script" 84 "CellForge$Script" "ready" "Z" ∈ cfB := cf_in 467 (by decide +kernel) rfl
def yCv_writeTo : MethodName := ⟨"CellForge$Cover", "writeTo", "(LCellForge$Script;LCellForge$Netlist;LCellForge$Graph;)V"⟩
abbrev cCv_writeTo : ByteArray := prog_3_method_8_code
theorem dCv_writeTo_0 : decode cCv_writeTo 0 = .ok (.aload_n 1, 1) := by decide +kernel
theorem dCv_writeTo_1 : decode cCv_writeTo 1 = .ok (.aload_n 2, 1) := by decide +kernel
theorem dCv_writeTo_2 : decode cCv_writeTo 2 = .ok (.invokevirtual 129, 3) := by decide +kernel
theorem dCv_writeTo_5 : decode cCv_writeTo 5 = .ok (.iconst 0, 1) := by decide +kernel
theorem dCv_writeTo_6 : decode cCv_writeTo 6 = .ok (.istore 4, 2) := by decide +kernel
theorem dCv_writeTo_8 : decode cCv_writeTo 8 = .ok (.iload 4, 2) := by decide +kernel
theorem dCv_writeTo_10 : decode cCv_writeTo 10 = .ok (.aload_n 0, 1) := by decide +kernel
theorem dCv_writeTo_11 : decode cCv_writeTo 11 = .ok (.getfield 56, 3) := by decide +kernel
theorem dCv_writeTo_14 : decode cCv_writeTo 14 = .ok (.if_icmp .ge 97, 3) := by decide +kernel
theorem dCv_writeTo_17 : decode cCv_writeTo 17 = .ok (.aload_n 0, 1) := by decide +kernel
theorem dCv_writeTo_18 : decode cCv_writeTo 18 = .ok (.iload 4, 2) := by decide +kernel
theorem dCv_writeTo_20 : decode cCv_writeTo 20 = .ok (.invokevirtual 135, 3) := by decide +kernel
theorem dCv_writeTo_23 : decode cCv_writeTo 23 = .ok (.invokestatic 95, 3) := by decide +kernel
theorem dCv_writeTo_26 : decode cCv_writeTo 26 = .ok (.istore 5, 2) := by decide +kernel
theorem dCv_writeTo_28 : decode cCv_writeTo 28 = .ok (.aload_n 1, 1) := by decide +kernel
theorem dCv_writeTo_29 : decode cCv_writeTo 29 = .ok (.getfield 138, 3) := by decide +kernel
theorem dCv_writeTo_32 : decode cCv_writeTo 32 = .ok (.ldc 142, 2) := by decide +kernel
theorem dCv_writeTo_34 : decode cCv_writeTo 34 = .ok (.invokevirtual 144, 3) := by decide +kernel
theorem dCv_writeTo_37 : decode cCv_writeTo 37 = .ok (.pop, 1) := by decide +kernel
theorem dCv_writeTo_38 : decode cCv_writeTo 38 = .ok (.iconst 0, 1) := by decide +kernel
theorem dCv_writeTo_39 : decode cCv_writeTo 39 = .ok (.istore 6, 2) := by decide +kernel
theorem dCv_writeTo_41 : decode cCv_writeTo 41 = .ok (.iload 6, 2) := by decide +kernel
theorem dCv_writeTo_43 : decode cCv_writeTo 43 = .ok (.iload 5, 2) := by decide +kernel
theorem dCv_writeTo_45 : decode cCv_writeTo 45 = .ok (.if_icmp .ge 25, 3) := by decide +kernel
theorem dCv_writeTo_48 : decode cCv_writeTo 48 = .ok (.aload_n 1, 1) := by decide +kernel
theorem dCv_writeTo_49 : decode cCv_writeTo 49 = .ok (.aload_n 2, 1) := by decide +kernel
theorem dCv_writeTo_50 : decode cCv_writeTo 50 = .ok (.aload_n 0, 1) := by decide +kernel
theorem dCv_writeTo_51 : decode cCv_writeTo 51 = .ok (.iload 4, 2) := by decide +kernel
theorem dCv_writeTo_53 : decode cCv_writeTo 53 = .ok (.invokevirtual 135, 3) := by decide +kernel
theorem dCv_writeTo_56 : decode cCv_writeTo 56 = .ok (.iload 6, 2) := by decide +kernel
theorem dCv_writeTo_58 : decode cCv_writeTo 58 = .ok (.invokestatic 99, 3) := by decide +kernel
theorem dCv_writeTo_61 : decode cCv_writeTo 61 = .ok (.invokevirtual 150, 3) := by decide +kernel
theorem dCv_writeTo_64 : decode cCv_writeTo 64 = .ok (.iinc 6 1, 3) := by decide +kernel
theorem dCv_writeTo_67 : decode cCv_writeTo 67 = .ok (.goto (-26), 3) := by decide +kernel
theorem dCv_writeTo_70 : decode cCv_writeTo 70 = .ok (.aload_n 1, 1) := by decide +kernel
theorem dCv_writeTo_71 : decode cCv_writeTo 71 = .ok (.aload_n 2, 1) := by decide +kernel
theorem dCv_writeTo_72 : decode cCv_writeTo 72 = .ok (.aload_n 0, 1) := by decide +kernel
theorem dCv_writeTo_73 : decode cCv_writeTo 73 = .ok (.getfield 9, 3) := by decide +kernel
theorem dCv_writeTo_76 : decode cCv_writeTo 76 = .ok (.iload 4, 2) := by decide +kernel
theorem dCv_writeTo_78 : decode cCv_writeTo 78 = .ok (.iaload, 1) := by decide +kernel
theorem dCv_writeTo_79 : decode cCv_writeTo 79 = .ok (.invokevirtual 150, 3) := by decide +kernel
theorem dCv_writeTo_82 : decode cCv_writeTo 82 = .ok (.aload_n 1, 1) := by decide +kernel
theorem dCv_writeTo_83 : decode cCv_writeTo 83 = .ok (.getfield 138, 3) := by decide +kernel
theorem dCv_writeTo_86 : decode cCv_writeTo 86 = .ok (.bipush 10, 2) := by decide +kernel
theorem dCv_writeTo_88 : decode cCv_writeTo 88 = .ok (.invokevirtual 154, 3) := by decide +kernel
theorem dCv_writeTo_91 : decode cCv_writeTo 91 = .ok (.pop, 1) := by decide +kernel
theorem dCv_writeTo_92 : decode cCv_writeTo 92 = .ok (.aload_n 1, 1) := by decide +kernel
theorem dCv_writeTo_93 : decode cCv_writeTo 93 = .ok (.aload_n 0, 1) := by decide +kernel
theorem dCv_writeTo_94 : decode cCv_writeTo 94 = .ok (.getfield 15, 3) := by decide +kernel
theorem dCv_writeTo_97 : decode cCv_writeTo 97 = .ok (.iload 4, 2) := by decide +kernel
theorem dCv_writeTo_99 : decode cCv_writeTo 99 = .ok (.iaload, 1) := by decide +kernel
theorem dCv_writeTo_100 : decode cCv_writeTo 100 = .ok (.iload 5, 2) := by decide +kernel
theorem dCv_writeTo_102 : decode cCv_writeTo 102 = .ok (.invokestatic 157, 3) := by decide +kernel
theorem dCv_writeTo_105 : decode cCv_writeTo 105 = .ok (.iinc 4 1, 3) := by decide +kernel
theorem dCv_writeTo_108 : decode cCv_writeTo 108 = .ok (.goto (-100), 3) := by decide +kernel
theorem dCv_writeTo_111 : decode cCv_writeTo 111 = .ok (.iconst 0, 1) := by decide +kernel
theorem dCv_writeTo_112 : decode cCv_writeTo 112 = .ok (.istore 4, 2) := by decide +kernel
theorem dCv_writeTo_114 : decode cCv_writeTo 114 = .ok (.iload 4, 2) := by decide +kernel
theorem dCv_writeTo_116 : decode cCv_writeTo 116 = .ok (.aload_n 3, 1) := by decide +kernel
theorem dCv_writeTo_117 : decode cCv_writeTo 117 = .ok (.getfield 79, 3) := by decide +kernel
theorem dCv_writeTo_120 : decode cCv_writeTo 120 = .ok (.if_icmp .ge 42, 3) := by decide +kernel
theorem dCv_writeTo_123 : decode cCv_writeTo 123 = .ok (.aload_n 3, 1) := by decide +kernel
theorem dCv_writeTo_124 : decode cCv_writeTo 124 = .ok (.getfield 82, 3) := by decide +kernel
theorem dCv_writeTo_127 : decode cCv_writeTo 127 = .ok (.iload 4, 2) := by decide +kernel
theorem dCv_writeTo_129 : decode cCv_writeTo 129 = .ok (.iaload, 1) := by decide +kernel
theorem dCv_writeTo_130 : decode cCv_writeTo 130 = .ok (.istore 5, 2) := by decide +kernel
theorem dCv_writeTo_132 : decode cCv_writeTo 132 = .ok (.aload_n 1, 1) := by decide +kernel
theorem dCv_writeTo_133 : decode cCv_writeTo 133 = .ok (.aload_n 2, 1) := by decide +kernel
theorem dCv_writeTo_134 : decode cCv_writeTo 134 = .ok (.iload 4, 2) := by decide +kernel
theorem dCv_writeTo_136 : decode cCv_writeTo 136 = .ok (.iload 5, 2) := by decide +kernel
theorem dCv_writeTo_138 : decode cCv_writeTo 138 = .ok (.bipush (-2), 2) := by decide +kernel
theorem dCv_writeTo_140 : decode cCv_writeTo 140 = .ok (.iand, 1) := by decide +kernel
theorem dCv_writeTo_141 : decode cCv_writeTo 141 = .ok (.iload 5, 2) := by decide +kernel
theorem dCv_writeTo_143 : decode cCv_writeTo 143 = .ok (.iconst 1, 1) := by decide +kernel
theorem dCv_writeTo_144 : decode cCv_writeTo 144 = .ok (.iand, 1) := by decide +kernel
theorem dCv_writeTo_145 : decode cCv_writeTo 145 = .ok (.ifCond .eq 7, 3) := by decide +kernel
theorem dCv_writeTo_148 : decode cCv_writeTo 148 = .ok (.iconst 1, 1) := by decide +kernel
theorem dCv_writeTo_149 : decode cCv_writeTo 149 = .ok (.goto 4, 3) := by decide +kernel
theorem dCv_writeTo_152 : decode cCv_writeTo 152 = .ok (.iconst 0, 1) := by decide +kernel
theorem dCv_writeTo_153 : decode cCv_writeTo 153 = .ok (.invokevirtual 161, 3) := by decide +kernel
theorem dCv_writeTo_156 : decode cCv_writeTo 156 = .ok (.iinc 4 1, 3) := by decide +kernel
theorem dCv_writeTo_159 : decode cCv_writeTo 159 = .ok (.goto (-45), 3) := by decide +kernel
theorem dCv_writeTo_162 : decode cCv_writeTo 162 = .ok (.aload_n 1, 1) := by decide +kernel
theorem dCv_writeTo_163 : decode cCv_writeTo 163 = .ok (.invokevirtual 165, 3) := by decide +kernel
theorem dCv_writeTo_166 : decode cCv_writeTo 166 = .ok (.return_, 1) := by decide +kernel
theorem wv_1832 : Cond.methodLink "CellForge$Cover" 161 (⟨"CellForge$Script", "writeResult", "(LCellForge$Netlist;IIZ)V"⟩ : MethodName) ∈ cfB := cf_in 1832 (by decide +kernel) rfl
theorem wv_1835 : Cond.code (⟨"CellForge$Script", "writeResult", "(LCellForge$Netlist;IIZ)V"⟩ : MethodName) prog_11_method_7_code 6 (Option.none : Option Jvm.ClassFile.FieldType) ∈ cfB := cf_in 1835 (by decide +kernel) rfl
theorem wv_1833 : Cond.instanceMethod (⟨"CellForge$Script", "writeResult", "(LCellForge$Netlist;IIZ)V"⟩ : MethodName) ∈ cfB := cf_in 1833 (by decide +kernel) rfl
theorem wv_1834 : Cond.selects "CellForge$Script" (⟨"CellForge$Script", "writeResult", "(LCellForge$Netlist;IIZ)V"⟩ : MethodName) (⟨"CellForge$Script", "writeResult", "(LCellForge$Netlist;IIZ)V"⟩ : MethodName) ∈ cfB := cf_in 1834 (by decide +kernel) rfl
theorem wv_1840 : Cond.methodLink "CellForge$Cover" 165 (⟨"CellForge$Script", "close", "()V"⟩ : MethodName) ∈ cfB := cf_in 1840 (by decide +kernel) rfl
theorem wv_1843 : Cond.code (⟨"CellForge$Script", "close", "()V"⟩ : MethodName) prog_11_method_8_code 1 (Option.none : Option Jvm.ClassFile.FieldType) ∈ cfB := cf_in 1843 (by decide +kernel) rfl
theorem wv_1841 : Cond.instanceMethod (⟨"CellForge$Script", "close", "()V"⟩ : MethodName) ∈ cfB := cf_in 1841 (by decide +kernel) rfl
theorem wv_1842 : Cond.selects "CellForge$Script" (⟨"CellForge$Script", "close", "()V"⟩ : MethodName) (⟨"CellForge$Script", "close", "()V"⟩ : MethodName) ∈ cfB := cf_in 1842 (by decide +kernel) rfl
theorem wv_1828 : Cond.methodLink "CellForge$Cover" 157 (⟨"CellForge$Cover", "writeRows", "(LCellForge$Script;II)V"⟩ : MethodName) ∈ cfB := cf_in 1828 (by decide +kernel) rfl
theorem wv_1830 : Cond.code (⟨"CellForge$Cover", "writeRows", "(LCellForge$Script;II)V"⟩ : MethodName) prog_3_method_9_code 5 (Option.none : Option Jvm.ClassFile.FieldType) ∈ cfB := cf_in 1830 (by decide +kernel) rfl
theorem wv_1829 : Cond.static (⟨"CellForge$Cover", "writeRows", "(LCellForge$Script;II)V"⟩ : MethodName) ∈ cfB := cf_in 1829 (by decide +kernel) rfl
theorem wv_1816 : Cond.methodLink "CellForge$Cover" 150 (⟨"CellForge$Script", "writeNode", "(LCellForge$Netlist;I)V"⟩ : MethodName) ∈ cfB := cf_in 1816 (by decide +kernel) rfl
theorem wv_1819 : Cond.code (⟨"CellForge$Script", "writeNode", "(LCellForge$Netlist;I)V"⟩ : MethodName) prog_11_method_5_code 3 (Option.none : Option Jvm.ClassFile.FieldType) ∈ cfB := cf_in 1819 (by decide +kernel) rfl
theorem wv_1817 : Cond.instanceMethod (⟨"CellForge$Script", "writeNode", "(LCellForge$Netlist;I)V"⟩ : MethodName) ∈ cfB := cf_in 1817 (by decide +kernel) rfl
theorem wv_1818 : Cond.selects "CellForge$Script" (⟨"CellForge$Script", "writeNode", "(LCellForge$Netlist;I)V"⟩ : MethodName) (⟨"CellForge$Script", "writeNode", "(LCellForge$Netlist;I)V"⟩ : MethodName) ∈ cfB := cf_in 1818 (by decide +kernel) rfl
theorem wv_1813 : Cond.methodLink "CellForge$Cover" 135 (⟨"CellForge$Cover", "cutOf", "(I)J"⟩ : MethodName) ∈ cfB := cf_in 1813 (by decide +kernel) rfl
theorem wv_1521 : Cond.code (⟨"CellForge$Cover", "cutOf", "(I)J"⟩ : MethodName) prog_3_method_2_code 2 (Option.some Jvm.ClassFile.FieldType.long) ∈ cfB := cf_in 1521 (by decide +kernel) rfl
theorem wv_1519 : Cond.instanceMethod (⟨"CellForge$Cover", "cutOf", "(I)J"⟩ : MethodName) ∈ cfB := cf_in 1519 (by decide +kernel) rfl
theorem wv_1520 : Cond.selects "CellForge$Cover" (⟨"CellForge$Cover", "cutOf", "(I)J"⟩ : MethodName) (⟨"CellForge$Cover", "cutOf", "(I)J"⟩ : MethodName) ∈ cfB := cf_in 1520 (by decide +kernel) rfl
theorem wv_1535 : Cond.methodLink "CellForge$Cover" 129 (⟨"CellForge$Script", "writeHead", "(LCellForge$Netlist;)V"⟩ : MethodName) ∈ cfB := cf_in 1535 (by decide +kernel) rfl
theorem wv_1538 : Cond.code (⟨"CellForge$Script", "writeHead", "(LCellForge$Netlist;)V"⟩ : MethodName) prog_11_method_3_code 3 (Option.none : Option Jvm.ClassFile.FieldType) ∈ cfB := cf_in 1538 (by decide +kernel) rfl
theorem wv_1536 : Cond.instanceMethod (⟨"CellForge$Script", "writeHead", "(LCellForge$Netlist;)V"⟩ : MethodName) ∈ cfB := cf_in 1536 (by decide +kernel) rfl
theorem wv_1537 : Cond.selects "CellForge$Script" (⟨"CellForge$Script", "writeHead", "(LCellForge$Netlist;)V"⟩ : MethodName) (⟨"CellForge$Script", "writeHead", "(LCellForge$Netlist;)V"⟩ : MethodName) ∈ cfB := cf_in 1537 (by decide +kernel) rfl
def yCu_add : MethodName := ⟨"CellForge$Cuts", "add", "(JJ)V"⟩
abbrev cCu_add : ByteArray := prog_4_method_13_code
theorem dCu_add_0 : decode cCu_add 0 = .ok (.aload_n 0, 1) := by decide +kernel
theorem dCu_add_1 : decode cCu_add 1 = .ok (.getfield 40, 3) := by decide +kernel
theorem dCu_add_4 : decode cCu_add 4 = .ok (.aload_n 0, 1) := by decide +kernel
theorem dCu_add_5 : decode cCu_add 5 = .ok (.getfield 18, 3) := by decide +kernel
theorem dCu_add_8 : decode cCu_add 8 = .ok (.arraylength, 1) := by decide +kernel
theorem dCu_add_9 : decode cCu_add 9 = .ok (.if_icmp .ne 37, 3) := by decide +kernel
theorem dCu_add_12 : decode cCu_add 12 = .ok (.aload_n 0, 1) := by decide +kernel
theorem dCu_add_13 : decode cCu_add 13 = .ok (.aload_n 0, 1) := by decide +kernel
theorem dCu_add_14 : decode cCu_add 14 = .ok (.getfield 18, 3) := by decide +kernel
theorem dCu_add_17 : decode cCu_add 17 = .ok (.iconst 2, 1) := by decide +kernel
theorem dCu_add_18 : decode cCu_add 18 = .ok (.aload_n 0, 1) := by decide +kernel
theorem dCu_add_19 : decode cCu_add 19 = .ok (.getfield 40, 3) := by decide +kernel
theorem dCu_add_22 : decode cCu_add 22 = .ok (.imul, 1) := by decide +kernel
theorem dCu_add_23 : decode cCu_add 23 = .ok (.invokestatic 101, 3) := by decide +kernel
theorem dCu_add_26 : decode cCu_add 26 = .ok (.putfield 18, 3) := by decide +kernel
theorem dCu_add_29 : decode cCu_add 29 = .ok (.aload_n 0, 1) := by decide +kernel
theorem dCu_add_30 : decode cCu_add 30 = .ok (.aload_n 0, 1) := by decide +kernel
theorem dCu_add_31 : decode cCu_add 31 = .ok (.getfield 22, 3) := by decide +kernel
theorem dCu_add_34 : decode cCu_add 34 = .ok (.iconst 2, 1) := by decide +kernel
theorem dCu_add_35 : decode cCu_add 35 = .ok (.aload_n 0, 1) := by decide +kernel
theorem dCu_add_36 : decode cCu_add 36 = .ok (.getfield 40, 3) := by decide +kernel
theorem dCu_add_39 : decode cCu_add 39 = .ok (.imul, 1) := by decide +kernel
theorem dCu_add_40 : decode cCu_add 40 = .ok (.invokestatic 101, 3) := by decide +kernel
theorem dCu_add_43 : decode cCu_add 43 = .ok (.putfield 22, 3) := by decide +kernel
theorem dCu_add_46 : decode cCu_add 46 = .ok (.aload_n 0, 1) := by decide +kernel
theorem dCu_add_47 : decode cCu_add 47 = .ok (.getfield 18, 3) := by decide +kernel
theorem dCu_add_50 : decode cCu_add 50 = .ok (.aload_n 0, 1) := by decide +kernel
theorem dCu_add_51 : decode cCu_add 51 = .ok (.getfield 40, 3) := by decide +kernel
theorem dCu_add_54 : decode cCu_add 54 = .ok (.lload_n 1, 1) := by decide +kernel
theorem dCu_add_55 : decode cCu_add 55 = .ok (.lastore, 1) := by decide +kernel
theorem dCu_add_56 : decode cCu_add 56 = .ok (.aload_n 0, 1) := by decide +kernel
theorem dCu_add_57 : decode cCu_add 57 = .ok (.getfield 22, 3) := by decide +kernel
theorem dCu_add_60 : decode cCu_add 60 = .ok (.aload_n 0, 1) := by decide +kernel
theorem dCu_add_61 : decode cCu_add 61 = .ok (.getfield 40, 3) := by decide +kernel
theorem dCu_add_64 : decode cCu_add 64 = .ok (.lload_n 3, 1) := by decide +kernel
theorem dCu_add_65 : decode cCu_add 65 = .ok (.lastore, 1) := by decide +kernel
theorem dCu_add_66 : decode cCu_add 66 = .ok (.aload_n 0, 1) := by decide +kernel
theorem dCu_add_67 : decode cCu_add 67 = .ok (.dup, 1) := by decide +kernel
theorem dCu_add_68 : decode cCu_add 68 = .ok (.getfield 40, 3) := by decide +kernel
theorem dCu_add_71 : decode cCu_add 71 = .ok (.iconst 1, 1) := by decide +kernel
theorem dCu_add_72 : decode cCu_add 72 = .ok (.iadd, 1) := by decide +kernel
theorem dCu_add_73 : decode cCu_add 73 = .ok (.putfield 40, 3) := by decide +kernel
theorem dCu_add_76 : decode cCu_add 76 = .ok (.return_, 1) := by decide +kernel
theorem wv_269 : Cond.fieldLink "CellForge$Cuts" 40 "CellForge$Cuts" "used" "I" ∈ cfB := cf_in 269 (by decide +kernel) rfl
theorem wv_1282 : Cond.methodLink "CellForge$Cuts" 101 (⟨"java/util/Arrays", "copyOf", "([JI)[J"⟩ : MethodName) ∈ cfB := cf_in 1282 (by decide +kernel) rfl
theorem wv_1283 : Cond.static (⟨"java/util/Arrays", "copyOf", "([JI)[J"⟩ : MethodName) ∈ cfB := cf_in 1283 (by decide +kernel) rfl
theorem wv_1284 : Cond.code (⟨"java/util/Arrays", "copyOf", "([JI)[J"⟩ : MethodName) prog_34_method_124_code 3 (Option.some (Jvm.ClassFile.FieldType.array Jvm.ClassFile.FieldType.long)) ∈ cfB := cf_in 1284 (by decide +kernel) rfl
def yJLong_bitCount_J : MethodName := ⟨"java/lang/Long", "bitCount", "(J)I"⟩
abbrev cJLong_bitCount_J : ByteArray := prog_23_method_50_code
theorem dJLong_bitCount_J_0 : decode cJLong_bitCount_J 0 = .ok (.lload_n 0, 1) := by decide +kernel
theorem dJLong_bitCount_J_1 : decode cJLong_bitCount_J 1 = .ok (.lload_n 0, 1) := by decide +kernel
theorem dJLong_bitCount_J_2 : decode cJLong_bitCount_J 2 = .ok (.iconst 1, 1) := by decide +kernel
theorem dJLong_bitCount_J_3 : decode cJLong_bitCount_J 3 = .ok (.lushr, 1) := by decide +kernel
theorem dJLong_bitCount_J_4 : decode cJLong_bitCount_J 4 = .ok (.ldc2_w 314, 3) := by decide +kernel
theorem dJLong_bitCount_J_7 : decode cJLong_bitCount_J 7 = .ok (.land, 1) := by decide +kernel
theorem dJLong_bitCount_J_8 : decode cJLong_bitCount_J 8 = .ok (.lsub, 1) := by decide +kernel
theorem dJLong_bitCount_J_9 : decode cJLong_bitCount_J 9 = .ok (.lstore_n 0, 1) := by decide +kernel
theorem dJLong_bitCount_J_10 : decode cJLong_bitCount_J 10 = .ok (.lload_n 0, 1) := by decide +kernel
theorem dJLong_bitCount_J_11 : decode cJLong_bitCount_J 11 = .ok (.ldc2_w 316, 3) := by decide +kernel
theorem dJLong_bitCount_J_14 : decode cJLong_bitCount_J 14 = .ok (.land, 1) := by decide +kernel
theorem dJLong_bitCount_J_15 : decode cJLong_bitCount_J 15 = .ok (.lload_n 0, 1) := by decide +kernel
theorem dJLong_bitCount_J_16 : decode cJLong_bitCount_J 16 = .ok (.iconst 2, 1) := by decide +kernel
theorem dJLong_bitCount_J_17 : decode cJLong_bitCount_J 17 = .ok (.lushr, 1) := by decide +kernel
theorem dJLong_bitCount_J_18 : decode cJLong_bitCount_J 18 = .ok (.ldc2_w 316, 3) := by decide +kernel
theorem dJLong_bitCount_J_21 : decode cJLong_bitCount_J 21 = .ok (.land, 1) := by decide +kernel
theorem dJLong_bitCount_J_22 : decode cJLong_bitCount_J 22 = .ok (.ladd, 1) := by decide +kernel
theorem dJLong_bitCount_J_23 : decode cJLong_bitCount_J 23 = .ok (.lstore_n 0, 1) := by decide +kernel
theorem dJLong_bitCount_J_24 : decode cJLong_bitCount_J 24 = .ok (.lload_n 0, 1) := by decide +kernel
theorem dJLong_bitCount_J_25 : decode cJLong_bitCount_J 25 = .ok (.lload_n 0, 1) := by decide +kernel
theorem dJLong_bitCount_J_26 : decode cJLong_bitCount_J 26 = .ok (.iconst 4, 1) := by decide +kernel
theorem dJLong_bitCount_J_27 : decode cJLong_bitCount_J 27 = .ok (.lushr, 1) := by decide +kernel
theorem dJLong_bitCount_J_28 : decode cJLong_bitCount_J 28 = .ok (.ladd, 1) := by decide +kernel
theorem dJLong_bitCount_J_29 : decode cJLong_bitCount_J 29 = .ok (.ldc2_w 318, 3) := by decide +kernel
theorem dJLong_bitCount_J_32 : decode cJLong_bitCount_J 32 = .ok (.land, 1) := by decide +kernel
theorem dJLong_bitCount_J_33 : decode cJLong_bitCount_J 33 = .ok (.lstore_n 0, 1) := by decide +kernel
theorem dJLong_bitCount_J_34 : decode cJLong_bitCount_J 34 = .ok (.lload_n 0, 1) := by decide +kernel
theorem dJLong_bitCount_J_35 : decode cJLong_bitCount_J 35 = .ok (.lload_n 0, 1) := by decide +kernel
theorem dJLong_bitCount_J_36 : decode cJLong_bitCount_J 36 = .ok (.bipush 8, 2) := by decide +kernel
theorem dJLong_bitCount_J_38 : decode cJLong_bitCount_J 38 = .ok (.lushr, 1) := by decide +kernel
theorem dJLong_bitCount_J_39 : decode cJLong_bitCount_J 39 = .ok (.ladd, 1) := by decide +kernel
theorem dJLong_bitCount_J_40 : decode cJLong_bitCount_J 40 = .ok (.lstore_n 0, 1) := by decide +kernel
theorem dJLong_bitCount_J_41 : decode cJLong_bitCount_J 41 = .ok (.lload_n 0, 1) := by decide +kernel
theorem dJLong_bitCount_J_42 : decode cJLong_bitCount_J 42 = .ok (.lload_n 0, 1) := by decide +kernel
theorem dJLong_bitCount_J_43 : decode cJLong_bitCount_J 43 = .ok (.bipush 16, 2) := by decide +kernel
theorem dJLong_bitCount_J_45 : decode cJLong_bitCount_J 45 = .ok (.lushr, 1) := by decide +kernel
theorem dJLong_bitCount_J_46 : decode cJLong_bitCount_J 46 = .ok (.ladd, 1) := by decide +kernel
theorem dJLong_bitCount_J_47 : decode cJLong_bitCount_J 47 = .ok (.lstore_n 0, 1) := by decide +kernel
theorem dJLong_bitCount_J_48 : decode cJLong_bitCount_J 48 = .ok (.lload_n 0, 1) := by decide +kernel
theorem dJLong_bitCount_J_49 : decode cJLong_bitCount_J 49 = .ok (.lload_n 0, 1) := by decide +kernel
theorem dJLong_bitCount_J_50 : decode cJLong_bitCount_J 50 = .ok (.bipush 32, 2) := by decide +kernel
theorem dJLong_bitCount_J_52 : decode cJLong_bitCount_J 52 = .ok (.lushr, 1) := by decide +kernel
theorem dJLong_bitCount_J_53 : decode cJLong_bitCount_J 53 = .ok (.ladd, 1) := by decide +kernel
theorem dJLong_bitCount_J_54 : decode cJLong_bitCount_J 54 = .ok (.lstore_n 0, 1) := by decide +kernel
theorem dJLong_bitCount_J_55 : decode cJLong_bitCount_J 55 = .ok (.lload_n 0, 1) := by decide +kernel
theorem dJLong_bitCount_J_56 : decode cJLong_bitCount_J 56 = .ok (.l2i, 1) := by decide +kernel
theorem dJLong_bitCount_J_57 : decode cJLong_bitCount_J 57 = .ok (.bipush 127, 2) := by decide +kernel
theorem dJLong_bitCount_J_59 : decode cJLong_bitCount_J 59 = .ok (.iand, 1) := by decide +kernel
theorem dJLong_bitCount_J_60 : decode cJLong_bitCount_J 60 = .ok (.ireturn, 1) := by decide +kernel
theorem wv_1308 : Cond.constantLong "java/lang/Long" 314 6148914691236517205 ∈ cfB := cf_in 1308 (by decide +kernel) rfl
theorem wv_1309 : Cond.constantLong "java/lang/Long" 316 3689348814741910323 ∈ cfB := cf_in 1309 (by decide +kernel) rfl
theorem wv_1310 : Cond.constantLong "java/lang/Long" 318 1085102592571150095 ∈ cfB := cf_in 1310 (by decide +kernel) rfl
def yCu_join : MethodName := ⟨"CellForge$Cuts", "join", "(JJI)J"⟩
abbrev cCu_join : ByteArray := prog_4_method_10_code
theorem dCu_join_0 : decode cCu_join 0 = .ok (.lload_n 0, 1) := by decide +kernel
theorem dCu_join_1 : decode cCu_join 1 = .ok (.lstore 5, 2) := by decide +kernel
theorem dCu_join_3 : decode cCu_join 3 = .ok (.lload_n 2, 1) := by decide +kernel
theorem dCu_join_4 : decode cCu_join 4 = .ok (.lstore 7, 2) := by decide +kernel
theorem dCu_join_6 : decode cCu_join 6 = .ok (.lconst 0, 1) := by decide +kernel
theorem dCu_join_7 : decode cCu_join 7 = .ok (.lstore 9, 2) := by decide +kernel
theorem dCu_join_9 : decode cCu_join 9 = .ok (.iconst 0, 1) := by decide +kernel
theorem dCu_join_10 : decode cCu_join 10 = .ok (.istore 11, 2) := by decide +kernel
theorem dCu_join_12 : decode cCu_join 12 = .ok (.iload 11, 2) := by decide +kernel
theorem dCu_join_14 : decode cCu_join 14 = .ok (.iload 4, 2) := by decide +kernel
theorem dCu_join_16 : decode cCu_join 16 = .ok (.if_icmp .ge 87, 3) := by decide +kernel
theorem dCu_join_19 : decode cCu_join 19 = .ok (.lload 5, 2) := by decide +kernel
theorem dCu_join_21 : decode cCu_join 21 = .ok (.ldc2_w 34, 3) := by decide +kernel
theorem dCu_join_24 : decode cCu_join 24 = .ok (.land, 1) := by decide +kernel
theorem dCu_join_25 : decode cCu_join 25 = .ok (.lload 7, 2) := by decide +kernel
theorem dCu_join_27 : decode cCu_join 27 = .ok (.ldc2_w 34, 3) := by decide +kernel
theorem dCu_join_30 : decode cCu_join 30 = .ok (.land, 1) := by decide +kernel
theorem dCu_join_31 : decode cCu_join 31 = .ok (.invokestatic 91, 3) := by decide +kernel
theorem dCu_join_34 : decode cCu_join 34 = .ok (.lstore 12, 2) := by decide +kernel
theorem dCu_join_36 : decode cCu_join 36 = .ok (.lload 9, 2) := by decide +kernel
theorem dCu_join_38 : decode cCu_join 38 = .ok (.lload 12, 2) := by decide +kernel
theorem dCu_join_40 : decode cCu_join 40 = .ok (.bipush 8, 2) := by decide +kernel
theorem dCu_join_42 : decode cCu_join 42 = .ok (.iload 11, 2) := by decide +kernel
theorem dCu_join_44 : decode cCu_join 44 = .ok (.imul, 1) := by decide +kernel
theorem dCu_join_45 : decode cCu_join 45 = .ok (.lshl, 1) := by decide +kernel
theorem dCu_join_46 : decode cCu_join 46 = .ok (.lor, 1) := by decide +kernel
theorem dCu_join_47 : decode cCu_join 47 = .ok (.lstore 9, 2) := by decide +kernel
theorem dCu_join_49 : decode cCu_join 49 = .ok (.lload 5, 2) := by decide +kernel
theorem dCu_join_51 : decode cCu_join 51 = .ok (.ldc2_w 34, 3) := by decide +kernel
theorem dCu_join_54 : decode cCu_join 54 = .ok (.land, 1) := by decide +kernel
theorem dCu_join_55 : decode cCu_join 55 = .ok (.lload 12, 2) := by decide +kernel
theorem dCu_join_57 : decode cCu_join 57 = .ok (.lcmp, 1) := by decide +kernel
theorem dCu_join_58 : decode cCu_join 58 = .ok (.ifCond .ne 11, 3) := by decide +kernel
theorem dCu_join_61 : decode cCu_join 61 = .ok (.lload 5, 2) := by decide +kernel
theorem dCu_join_63 : decode cCu_join 63 = .ok (.bipush 8, 2) := by decide +kernel
theorem dCu_join_65 : decode cCu_join 65 = .ok (.lushr, 1) := by decide +kernel
theorem dCu_join_66 : decode cCu_join 66 = .ok (.goto 5, 3) := by decide +kernel
theorem dCu_join_69 : decode cCu_join 69 = .ok (.lload 5, 2) := by decide +kernel
theorem dCu_join_71 : decode cCu_join 71 = .ok (.lstore 5, 2) := by decide +kernel
theorem dCu_join_73 : decode cCu_join 73 = .ok (.lload 7, 2) := by decide +kernel
theorem dCu_join_75 : decode cCu_join 75 = .ok (.ldc2_w 34, 3) := by decide +kernel
theorem dCu_join_78 : decode cCu_join 78 = .ok (.land, 1) := by decide +kernel
theorem dCu_join_79 : decode cCu_join 79 = .ok (.lload 12, 2) := by decide +kernel
theorem dCu_join_81 : decode cCu_join 81 = .ok (.lcmp, 1) := by decide +kernel
theorem dCu_join_82 : decode cCu_join 82 = .ok (.ifCond .ne 11, 3) := by decide +kernel
theorem dCu_join_85 : decode cCu_join 85 = .ok (.lload 7, 2) := by decide +kernel
theorem dCu_join_87 : decode cCu_join 87 = .ok (.bipush 8, 2) := by decide +kernel
theorem dCu_join_89 : decode cCu_join 89 = .ok (.lushr, 1) := by decide +kernel
theorem dCu_join_90 : decode cCu_join 90 = .ok (.goto 5, 3) := by decide +kernel
theorem dCu_join_93 : decode cCu_join 93 = .ok (.lload 7, 2) := by decide +kernel
theorem dCu_join_95 : decode cCu_join 95 = .ok (.lstore 7, 2) := by decide +kernel
theorem dCu_join_97 : decode cCu_join 97 = .ok (.iinc 11 1, 3) := by decide +kernel
theorem dCu_join_100 : decode cCu_join 100 = .ok (.goto (-88), 3) := by decide +kernel
theorem dCu_join_103 : decode cCu_join 103 = .ok (.lload 5, 2) := by decide +kernel
theorem dCu_join_105 : decode cCu_join 105 = .ok (.lconst 0, 1) := by decide +kernel
theorem dCu_join_106 : decode cCu_join 106 = .ok (.lcmp, 1) := by decide +kernel
theorem dCu_join_107 : decode cCu_join 107 = .ok (.ifCond .ne 15, 3) := by decide +kernel
theorem dCu_join_110 : decode cCu_join 110 = .ok (.lload 7, 2) := by decide +kernel
theorem dCu_join_112 : decode cCu_join 112 = .ok (.lconst 0, 1) := by decide +kernel
theorem dCu_join_113 : decode cCu_join 113 = .ok (.lcmp, 1) := by decide +kernel
theorem dCu_join_114 : decode cCu_join 114 = .ok (.ifCond .ne 8, 3) := by decide +kernel
theorem dCu_join_117 : decode cCu_join 117 = .ok (.lload 9, 2) := by decide +kernel
theorem dCu_join_119 : decode cCu_join 119 = .ok (.goto 4, 3) := by decide +kernel
theorem dCu_join_122 : decode cCu_join 122 = .ok (.lconst 0, 1) := by decide +kernel
theorem dCu_join_123 : decode cCu_join 123 = .ok (.lreturn, 1) := by decide +kernel
theorem wv_1315 : Cond.methodLink "CellForge$Cuts" 91 (⟨"java/lang/Math", "max", "(JJ)J"⟩ : MethodName) ∈ cfB := cf_in 1315 (by decide +kernel) rfl
theorem wv_1316 : Cond.static (⟨"java/lang/Math", "max", "(JJ)J"⟩ : MethodName) ∈ cfB := cf_in 1316 (by decide +kernel) rfl
theorem wv_1317 : Cond.code (⟨"java/lang/Math", "max", "(JJ)J"⟩ : MethodName) prog_24_method_66_code 4 (Option.some Jvm.ClassFile.FieldType.long) ∈ cfB := cf_in 1317 (by decide +kernel) rfl
def yCu_isPart : MethodName := ⟨"CellForge$Cuts", "isPart", "(JJ)Z"⟩
abbrev cCu_isPart : ByteArray := prog_4_method_12_code
theorem dCu_isPart_0 : decode cCu_isPart 0 = .ok (.lload_n 0, 1) := by decide +kernel
theorem dCu_isPart_1 : decode cCu_isPart 1 = .ok (.lstore 4, 2) := by decide +kernel
theorem dCu_isPart_3 : decode cCu_isPart 3 = .ok (.lload_n 2, 1) := by decide +kernel
theorem dCu_isPart_4 : decode cCu_isPart 4 = .ok (.lstore 6, 2) := by decide +kernel
theorem dCu_isPart_6 : decode cCu_isPart 6 = .ok (.lload 6, 2) := by decide +kernel
theorem dCu_isPart_8 : decode cCu_isPart 8 = .ok (.lconst 0, 1) := by decide +kernel
theorem dCu_isPart_9 : decode cCu_isPart 9 = .ok (.lcmp, 1) := by decide +kernel
theorem dCu_isPart_10 : decode cCu_isPart 10 = .ok (.ifCond .eq 36, 3) := by decide +kernel
theorem dCu_isPart_13 : decode cCu_isPart 13 = .ok (.lload 4, 2) := by decide +kernel
theorem dCu_isPart_15 : decode cCu_isPart 15 = .ok (.ldc2_w 34, 3) := by decide +kernel
theorem dCu_isPart_18 : decode cCu_isPart 18 = .ok (.land, 1) := by decide +kernel
theorem dCu_isPart_19 : decode cCu_isPart 19 = .ok (.lload 6, 2) := by decide +kernel
theorem dCu_isPart_21 : decode cCu_isPart 21 = .ok (.ldc2_w 34, 3) := by decide +kernel
theorem dCu_isPart_24 : decode cCu_isPart 24 = .ok (.land, 1) := by decide +kernel
theorem dCu_isPart_25 : decode cCu_isPart 25 = .ok (.lcmp, 1) := by decide +kernel
theorem dCu_isPart_26 : decode cCu_isPart 26 = .ok (.ifCond .ne 10, 3) := by decide +kernel
theorem dCu_isPart_29 : decode cCu_isPart 29 = .ok (.lload 4, 2) := by decide +kernel
theorem dCu_isPart_31 : decode cCu_isPart 31 = .ok (.bipush 8, 2) := by decide +kernel
theorem dCu_isPart_33 : decode cCu_isPart 33 = .ok (.lushr, 1) := by decide +kernel
theorem dCu_isPart_34 : decode cCu_isPart 34 = .ok (.lstore 4, 2) := by decide +kernel
theorem dCu_isPart_36 : decode cCu_isPart 36 = .ok (.lload 6, 2) := by decide +kernel
theorem dCu_isPart_38 : decode cCu_isPart 38 = .ok (.bipush 8, 2) := by decide +kernel
theorem dCu_isPart_40 : decode cCu_isPart 40 = .ok (.lushr, 1) := by decide +kernel
theorem dCu_isPart_41 : decode cCu_isPart 41 = .ok (.lstore 6, 2) := by decide +kernel
theorem dCu_isPart_43 : decode cCu_isPart 43 = .ok (.goto (-37), 3) := by decide +kernel
theorem dCu_isPart_46 : decode cCu_isPart 46 = .ok (.lload 4, 2) := by decide +kernel
theorem dCu_isPart_48 : decode cCu_isPart 48 = .ok (.lconst 0, 1) := by decide +kernel
theorem dCu_isPart_49 : decode cCu_isPart 49 = .ok (.lcmp, 1) := by decide +kernel
theorem dCu_isPart_50 : decode cCu_isPart 50 = .ok (.ifCond .ne 7, 3) := by decide +kernel
theorem dCu_isPart_53 : decode cCu_isPart 53 = .ok (.iconst 1, 1) := by decide +kernel
theorem dCu_isPart_54 : decode cCu_isPart 54 = .ok (.goto 4, 3) := by decide +kernel
theorem dCu_isPart_57 : decode cCu_isPart 57 = .ok (.iconst 0, 1) := by decide +kernel
theorem dCu_isPart_58 : decode cCu_isPart 58 = .ok (.ireturn, 1) := by decide +kernel
def yCu_hasPart : MethodName := ⟨"CellForge$Cuts", "hasPart", "(JJI)Z"⟩
abbrev cCu_hasPart : ByteArray := prog_4_method_11_code
theorem dCu_hasPart_0 : decode cCu_hasPart 0 = .ok (.iload 5, 2) := by decide +kernel
theorem dCu_hasPart_2 : decode cCu_hasPart 2 = .ok (.istore 6, 2) := by decide +kernel
theorem dCu_hasPart_4 : decode cCu_hasPart 4 = .ok (.iload 6, 2) := by decide +kernel
theorem dCu_hasPart_6 : decode cCu_hasPart 6 = .ok (.aload_n 0, 1) := by decide +kernel
theorem dCu_hasPart_7 : decode cCu_hasPart 7 = .ok (.getfield 40, 3) := by decide +kernel
theorem dCu_hasPart_10 : decode cCu_hasPart 10 = .ok (.if_icmp .ge 43, 3) := by decide +kernel
theorem dCu_hasPart_13 : decode cCu_hasPart 13 = .ok (.aload_n 0, 1) := by decide +kernel
theorem dCu_hasPart_14 : decode cCu_hasPart 14 = .ok (.getfield 22, 3) := by decide +kernel
theorem dCu_hasPart_17 : decode cCu_hasPart 17 = .ok (.iload 6, 2) := by decide +kernel
theorem dCu_hasPart_19 : decode cCu_hasPart 19 = .ok (.laload, 1) := by decide +kernel
theorem dCu_hasPart_20 : decode cCu_hasPart 20 = .ok (.lload_n 3, 1) := by decide +kernel
theorem dCu_hasPart_21 : decode cCu_hasPart 21 = .ok (.ldc2_w 95, 3) := by decide +kernel
theorem dCu_hasPart_24 : decode cCu_hasPart 24 = .ok (.lxor, 1) := by decide +kernel
theorem dCu_hasPart_25 : decode cCu_hasPart 25 = .ok (.land, 1) := by decide +kernel
theorem dCu_hasPart_26 : decode cCu_hasPart 26 = .ok (.lconst 0, 1) := by decide +kernel
theorem dCu_hasPart_27 : decode cCu_hasPart 27 = .ok (.lcmp, 1) := by decide +kernel
theorem dCu_hasPart_28 : decode cCu_hasPart 28 = .ok (.ifCond .ne 19, 3) := by decide +kernel
theorem dCu_hasPart_31 : decode cCu_hasPart 31 = .ok (.aload_n 0, 1) := by decide +kernel
theorem dCu_hasPart_32 : decode cCu_hasPart 32 = .ok (.getfield 18, 3) := by decide +kernel
theorem dCu_hasPart_35 : decode cCu_hasPart 35 = .ok (.iload 6, 2) := by decide +kernel
theorem dCu_hasPart_37 : decode cCu_hasPart 37 = .ok (.laload, 1) := by decide +kernel
theorem dCu_hasPart_38 : decode cCu_hasPart 38 = .ok (.lload_n 1, 1) := by decide +kernel
theorem dCu_hasPart_39 : decode cCu_hasPart 39 = .ok (.invokestatic 97, 3) := by decide +kernel
theorem dCu_hasPart_42 : decode cCu_hasPart 42 = .ok (.ifCond .eq 5, 3) := by decide +kernel
theorem dCu_hasPart_45 : decode cCu_hasPart 45 = .ok (.iconst 1, 1) := by decide +kernel
theorem dCu_hasPart_46 : decode cCu_hasPart 46 = .ok (.ireturn, 1) := by decide +kernel
theorem dCu_hasPart_47 : decode cCu_hasPart 47 = .ok (.iinc 6 1, 3) := by decide +kernel
theorem dCu_hasPart_50 : decode cCu_hasPart 50 = .ok (.goto (-46), 3) := by decide +kernel
theorem dCu_hasPart_53 : decode cCu_hasPart 53 = .ok (.iconst 0, 1) := by decide +kernel
theorem dCu_hasPart_54 : decode cCu_hasPart 54 = .ok (.ireturn, 1) := by decide +kernel
theorem wv_1322 : Cond.constantLong "CellForge$Cuts" 95 (-1) ∈ cfB := cf_in 1322 (by decide +kernel) rfl
theorem wv_1323 : Cond.methodLink "CellForge$Cuts" 97 (⟨"CellForge$Cuts", "isPart", "(JJ)Z"⟩ : MethodName) ∈ cfB := cf_in 1323 (by decide +kernel) rfl
theorem wv_1325 : Cond.code (⟨"CellForge$Cuts", "isPart", "(JJ)Z"⟩ : MethodName) prog_4_method_12_code 8 (Option.some Jvm.ClassFile.FieldType.boolean) ∈ cfB := cf_in 1325 (by decide +kernel) rfl
theorem wv_1324 : Cond.static (⟨"CellForge$Cuts", "isPart", "(JJ)Z"⟩ : MethodName) ∈ cfB := cf_in 1324 (by decide +kernel) rfl
def yCu_joinAll : MethodName := ⟨"CellForge$Cuts", "joinAll", "(IIII)Z"⟩
abbrev cCu_joinAll : ByteArray := prog_4_method_9_code
theorem dCu_joinAll_0 : decode cCu_joinAll 0 = .ok (.lconst 1, 1) := by decide +kernel
theorem dCu_joinAll_1 : decode cCu_joinAll 1 = .ok (.bipush 8, 2) := by decide +kernel
theorem dCu_joinAll_3 : decode cCu_joinAll 3 = .ok (.iload_n 3, 1) := by decide +kernel
theorem dCu_joinAll_4 : decode cCu_joinAll 4 = .ok (.imul, 1) := by decide +kernel
theorem dCu_joinAll_5 : decode cCu_joinAll 5 = .ok (.lshl, 1) := by decide +kernel
theorem dCu_joinAll_6 : decode cCu_joinAll 6 = .ok (.lstore 5, 2) := by decide +kernel
theorem dCu_joinAll_8 : decode cCu_joinAll 8 = .ok (.aload_n 0, 1) := by decide +kernel
theorem dCu_joinAll_9 : decode cCu_joinAll 9 = .ok (.getfield 15, 3) := by decide +kernel
theorem dCu_joinAll_12 : decode cCu_joinAll 12 = .ok (.iload_n 1, 1) := by decide +kernel
theorem dCu_joinAll_13 : decode cCu_joinAll 13 = .ok (.iaload, 1) := by decide +kernel
theorem dCu_joinAll_14 : decode cCu_joinAll 14 = .ok (.istore 7, 2) := by decide +kernel
theorem dCu_joinAll_16 : decode cCu_joinAll 16 = .ok (.iload 7, 2) := by decide +kernel
theorem dCu_joinAll_18 : decode cCu_joinAll 18 = .ok (.aload_n 0, 1) := by decide +kernel
theorem dCu_joinAll_19 : decode cCu_joinAll 19 = .ok (.getfield 15, 3) := by decide +kernel
theorem dCu_joinAll_22 : decode cCu_joinAll 22 = .ok (.iload_n 1, 1) := by decide +kernel
theorem dCu_joinAll_23 : decode cCu_joinAll 23 = .ok (.iconst 1, 1) := by decide +kernel
theorem dCu_joinAll_24 : decode cCu_joinAll 24 = .ok (.iadd, 1) := by decide +kernel
theorem dCu_joinAll_25 : decode cCu_joinAll 25 = .ok (.iaload, 1) := by decide +kernel
theorem dCu_joinAll_26 : decode cCu_joinAll 26 = .ok (.if_icmp .ge 165, 3) := by decide +kernel
theorem dCu_joinAll_29 : decode cCu_joinAll 29 = .ok (.aload_n 0, 1) := by decide +kernel
theorem dCu_joinAll_30 : decode cCu_joinAll 30 = .ok (.getfield 18, 3) := by decide +kernel
theorem dCu_joinAll_33 : decode cCu_joinAll 33 = .ok (.iload 7, 2) := by decide +kernel
theorem dCu_joinAll_35 : decode cCu_joinAll 35 = .ok (.laload, 1) := by decide +kernel
theorem dCu_joinAll_36 : decode cCu_joinAll 36 = .ok (.lload 5, 2) := by decide +kernel
theorem dCu_joinAll_38 : decode cCu_joinAll 38 = .ok (.lcmp, 1) := by decide +kernel
theorem dCu_joinAll_39 : decode cCu_joinAll 39 = .ok (.ifCond .ge 152, 3) := by decide +kernel
theorem dCu_joinAll_42 : decode cCu_joinAll 42 = .ok (.aload_n 0, 1) := by decide +kernel
theorem dCu_joinAll_43 : decode cCu_joinAll 43 = .ok (.getfield 15, 3) := by decide +kernel
theorem dCu_joinAll_46 : decode cCu_joinAll 46 = .ok (.iload_n 2, 1) := by decide +kernel
theorem dCu_joinAll_47 : decode cCu_joinAll 47 = .ok (.iaload, 1) := by decide +kernel
theorem dCu_joinAll_48 : decode cCu_joinAll 48 = .ok (.istore 8, 2) := by decide +kernel
theorem dCu_joinAll_50 : decode cCu_joinAll 50 = .ok (.iload 8, 2) := by decide +kernel
theorem dCu_joinAll_52 : decode cCu_joinAll 52 = .ok (.aload_n 0, 1) := by decide +kernel
theorem dCu_joinAll_53 : decode cCu_joinAll 53 = .ok (.getfield 15, 3) := by decide +kernel
theorem dCu_joinAll_56 : decode cCu_joinAll 56 = .ok (.iload_n 2, 1) := by decide +kernel
theorem dCu_joinAll_57 : decode cCu_joinAll 57 = .ok (.iconst 1, 1) := by decide +kernel
theorem dCu_joinAll_58 : decode cCu_joinAll 58 = .ok (.iadd, 1) := by decide +kernel
theorem dCu_joinAll_59 : decode cCu_joinAll 59 = .ok (.iaload, 1) := by decide +kernel
theorem dCu_joinAll_60 : decode cCu_joinAll 60 = .ok (.if_icmp .ge 125, 3) := by decide +kernel
theorem dCu_joinAll_63 : decode cCu_joinAll 63 = .ok (.aload_n 0, 1) := by decide +kernel
theorem dCu_joinAll_64 : decode cCu_joinAll 64 = .ok (.getfield 18, 3) := by decide +kernel
theorem dCu_joinAll_67 : decode cCu_joinAll 67 = .ok (.iload 8, 2) := by decide +kernel
theorem dCu_joinAll_69 : decode cCu_joinAll 69 = .ok (.laload, 1) := by decide +kernel
theorem dCu_joinAll_70 : decode cCu_joinAll 70 = .ok (.lload 5, 2) := by decide +kernel
theorem dCu_joinAll_72 : decode cCu_joinAll 72 = .ok (.lcmp, 1) := by decide +kernel
theorem dCu_joinAll_73 : decode cCu_joinAll 73 = .ok (.ifCond .ge 112, 3) := by decide +kernel
theorem dCu_joinAll_76 : decode cCu_joinAll 76 = .ok (.aload_n 0, 1) := by decide +kernel
theorem dCu_joinAll_77 : decode cCu_joinAll 77 = .ok (.getfield 22, 3) := by decide +kernel
theorem dCu_joinAll_80 : decode cCu_joinAll 80 = .ok (.iload 7, 2) := by decide +kernel
theorem dCu_joinAll_82 : decode cCu_joinAll 82 = .ok (.laload, 1) := by decide +kernel
theorem dCu_joinAll_83 : decode cCu_joinAll 83 = .ok (.aload_n 0, 1) := by decide +kernel
theorem dCu_joinAll_84 : decode cCu_joinAll 84 = .ok (.getfield 22, 3) := by decide +kernel
theorem dCu_joinAll_87 : decode cCu_joinAll 87 = .ok (.iload 8, 2) := by decide +kernel
theorem dCu_joinAll_89 : decode cCu_joinAll 89 = .ok (.laload, 1) := by decide +kernel
theorem dCu_joinAll_90 : decode cCu_joinAll 90 = .ok (.lor, 1) := by decide +kernel
theorem dCu_joinAll_91 : decode cCu_joinAll 91 = .ok (.lstore 9, 2) := by decide +kernel
theorem dCu_joinAll_93 : decode cCu_joinAll 93 = .ok (.lload 9, 2) := by decide +kernel
theorem dCu_joinAll_95 : decode cCu_joinAll 95 = .ok (.invokestatic 80, 3) := by decide +kernel
theorem dCu_joinAll_98 : decode cCu_joinAll 98 = .ok (.iload_n 3, 1) := by decide +kernel
theorem dCu_joinAll_99 : decode cCu_joinAll 99 = .ok (.if_icmp .le 7, 3) := by decide +kernel
theorem dCu_joinAll_102 : decode cCu_joinAll 102 = .ok (.lconst 0, 1) := by decide +kernel
theorem dCu_joinAll_103 : decode cCu_joinAll 103 = .ok (.goto 21, 3) := by decide +kernel
theorem dCu_joinAll_106 : decode cCu_joinAll 106 = .ok (.aload_n 0, 1) := by decide +kernel
theorem dCu_joinAll_107 : decode cCu_joinAll 107 = .ok (.getfield 18, 3) := by decide +kernel
theorem dCu_joinAll_110 : decode cCu_joinAll 110 = .ok (.iload 7, 2) := by decide +kernel
theorem dCu_joinAll_112 : decode cCu_joinAll 112 = .ok (.laload, 1) := by decide +kernel
theorem dCu_joinAll_113 : decode cCu_joinAll 113 = .ok (.aload_n 0, 1) := by decide +kernel
theorem dCu_joinAll_114 : decode cCu_joinAll 114 = .ok (.getfield 18, 3) := by decide +kernel
theorem dCu_joinAll_117 : decode cCu_joinAll 117 = .ok (.iload 8, 2) := by decide +kernel
theorem dCu_joinAll_119 : decode cCu_joinAll 119 = .ok (.laload, 1) := by decide +kernel
theorem dCu_joinAll_120 : decode cCu_joinAll 120 = .ok (.iload_n 3, 1) := by decide +kernel
theorem dCu_joinAll_121 : decode cCu_joinAll 121 = .ok (.invokestatic 83, 3) := by decide +kernel
theorem dCu_joinAll_124 : decode cCu_joinAll 124 = .ok (.lstore 11, 2) := by decide +kernel
theorem dCu_joinAll_126 : decode cCu_joinAll 126 = .ok (.lload 11, 2) := by decide +kernel
theorem dCu_joinAll_128 : decode cCu_joinAll 128 = .ok (.bipush 8, 2) := by decide +kernel
theorem dCu_joinAll_130 : decode cCu_joinAll 130 = .ok (.iload_n 3, 1) := by decide +kernel
theorem dCu_joinAll_131 : decode cCu_joinAll 131 = .ok (.iconst 1, 1) := by decide +kernel
theorem dCu_joinAll_132 : decode cCu_joinAll 132 = .ok (.isub, 1) := by decide +kernel
theorem dCu_joinAll_133 : decode cCu_joinAll 133 = .ok (.imul, 1) := by decide +kernel
theorem dCu_joinAll_134 : decode cCu_joinAll 134 = .ok (.lushr, 1) := by decide +kernel
theorem dCu_joinAll_135 : decode cCu_joinAll 135 = .ok (.lconst 0, 1) := by decide +kernel
theorem dCu_joinAll_136 : decode cCu_joinAll 136 = .ok (.lcmp, 1) := by decide +kernel
theorem dCu_joinAll_137 : decode cCu_joinAll 137 = .ok (.ifCond .eq 42, 3) := by decide +kernel
theorem dCu_joinAll_140 : decode cCu_joinAll 140 = .ok (.aload_n 0, 1) := by decide +kernel
theorem dCu_joinAll_141 : decode cCu_joinAll 141 = .ok (.lload 11, 2) := by decide +kernel
theorem dCu_joinAll_143 : decode cCu_joinAll 143 = .ok (.lload 9, 2) := by decide +kernel
theorem dCu_joinAll_145 : decode cCu_joinAll 145 = .ok (.iload 4, 2) := by decide +kernel
theorem dCu_joinAll_147 : decode cCu_joinAll 147 = .ok (.invokevirtual 87, 3) := by decide +kernel
theorem dCu_joinAll_150 : decode cCu_joinAll 150 = .ok (.ifCond .eq 6, 3) := by decide +kernel
theorem dCu_joinAll_153 : decode cCu_joinAll 153 = .ok (.goto 26, 3) := by decide +kernel
theorem dCu_joinAll_156 : decode cCu_joinAll 156 = .ok (.aload_n 0, 1) := by decide +kernel
theorem dCu_joinAll_157 : decode cCu_joinAll 157 = .ok (.getfield 40, 3) := by decide +kernel
theorem dCu_joinAll_160 : decode cCu_joinAll 160 = .ok (.iload 4, 2) := by decide +kernel
theorem dCu_joinAll_162 : decode cCu_joinAll 162 = .ok (.isub, 1) := by decide +kernel
theorem dCu_joinAll_163 : decode cCu_joinAll 163 = .ok (.sipush 300, 3) := by decide +kernel
theorem dCu_joinAll_166 : decode cCu_joinAll 166 = .ok (.if_icmp .ne 5, 3) := by decide +kernel
theorem dCu_joinAll_169 : decode cCu_joinAll 169 = .ok (.iconst 0, 1) := by decide +kernel
theorem dCu_joinAll_170 : decode cCu_joinAll 170 = .ok (.ireturn, 1) := by decide +kernel
theorem dCu_joinAll_171 : decode cCu_joinAll 171 = .ok (.aload_n 0, 1) := by decide +kernel
theorem dCu_joinAll_172 : decode cCu_joinAll 172 = .ok (.lload 11, 2) := by decide +kernel
theorem dCu_joinAll_174 : decode cCu_joinAll 174 = .ok (.lload 9, 2) := by decide +kernel
theorem dCu_joinAll_176 : decode cCu_joinAll 176 = .ok (.invokevirtual 49, 3) := by decide +kernel
theorem dCu_joinAll_179 : decode cCu_joinAll 179 = .ok (.iinc 8 1, 3) := by decide +kernel
theorem dCu_joinAll_182 : decode cCu_joinAll 182 = .ok (.goto (-132), 3) := by decide +kernel
theorem dCu_joinAll_185 : decode cCu_joinAll 185 = .ok (.iinc 7 1, 3) := by decide +kernel
theorem dCu_joinAll_188 : decode cCu_joinAll 188 = .ok (.goto (-172), 3) := by decide +kernel
theorem dCu_joinAll_191 : decode cCu_joinAll 191 = .ok (.iconst 1, 1) := by decide +kernel
theorem dCu_joinAll_192 : decode cCu_joinAll 192 = .ok (.ireturn, 1) := by decide +kernel
theorem wv_1278 : Cond.methodLink "CellForge$Cuts" 49 (⟨"CellForge$Cuts", "add", "(JJ)V"⟩ : MethodName) ∈ cfB := cf_in 1278 (by decide +kernel) rfl
theorem wv_1281 : Cond.code (⟨"CellForge$Cuts", "add", "(JJ)V"⟩ : MethodName) prog_4_method_13_code 5 (Option.none : Option Jvm.ClassFile.FieldType) ∈ cfB := cf_in 1281 (by decide +kernel) rfl
theorem wv_1280 : Cond.instanceMethod (⟨"CellForge$Cuts", "add", "(JJ)V"⟩ : MethodName) ∈ cfB := cf_in 1280 (by decide +kernel) rfl
theorem wv_37 : Cond.selects "CellForge$Cuts" (⟨"CellForge$Cuts", "add", "(JJ)V"⟩ : MethodName) (⟨"CellForge$Cuts", "add", "(JJ)V"⟩ : MethodName) ∈ cfB := cf_in 37 (by decide +kernel) rfl
theorem wv_1318 : Cond.methodLink "CellForge$Cuts" 87 (⟨"CellForge$Cuts", "hasPart", "(JJI)Z"⟩ : MethodName) ∈ cfB := cf_in 1318 (by decide +kernel) rfl
theorem wv_1321 : Cond.code (⟨"CellForge$Cuts", "hasPart", "(JJI)Z"⟩ : MethodName) prog_4_method_11_code 7 (Option.some Jvm.ClassFile.FieldType.boolean) ∈ cfB := cf_in 1321 (by decide +kernel) rfl
theorem wv_1320 : Cond.instanceMethod (⟨"CellForge$Cuts", "hasPart", "(JJI)Z"⟩ : MethodName) ∈ cfB := cf_in 1320 (by decide +kernel) rfl
theorem wv_40 : Cond.selects "CellForge$Cuts" (⟨"CellForge$Cuts", "hasPart", "(JJI)Z"⟩ : MethodName) (⟨"CellForge$Cuts", "hasPart", "(JJI)Z"⟩ : MethodName) ∈ cfB := cf_in 40 (by decide +kernel) rfl
theorem wv_1311 : Cond.methodLink "CellForge$Cuts" 83 (⟨"CellForge$Cuts", "join", "(JJI)J"⟩ : MethodName) ∈ cfB := cf_in 1311 (by decide +kernel) rfl
set_option maxRecDepth 100000 in
theorem wv_1313 : Cond.code (⟨"CellForge$Cuts", "join", "(JJI)J"⟩ : MethodName) prog_4_method_10_code 14 (Option.some Jvm.ClassFile.FieldType.long) ∈ cfB := List.mem_filter.mpr ⟨List.mem_append_right _ (List.mem_append_right _ (List.mem_append_right _ (List.mem_append_right _ (List.mem_append_right _ (List.mem_append_left _ (List.mem_of_getElem? (i := 197) rfl)))))), rfl⟩
theorem wv_1312 : Cond.static (⟨"CellForge$Cuts", "join", "(JJI)J"⟩ : MethodName) ∈ cfB := cf_in 1312 (by decide +kernel) rfl
theorem wv_1305 : Cond.methodLink "CellForge$Cuts" 80 (⟨"java/lang/Long", "bitCount", "(J)I"⟩ : MethodName) ∈ cfB := cf_in 1305 (by decide +kernel) rfl
theorem wv_1307 : Cond.code (⟨"java/lang/Long", "bitCount", "(J)I"⟩ : MethodName) prog_23_method_50_code 2 (Option.some Jvm.ClassFile.FieldType.int) ∈ cfB := cf_in 1307 (by decide +kernel) rfl
theorem wv_1306 : Cond.static (⟨"java/lang/Long", "bitCount", "(J)I"⟩ : MethodName) ∈ cfB := cf_in 1306 (by decide +kernel) rfl
def yCu_findOf : MethodName := ⟨"CellForge$Cuts", "findOf", "(LCellForge$Graph;II)Z"⟩
abbrev cCu_findOf : ByteArray := prog_4_method_8_code
theorem dCu_findOf_0 : decode cCu_findOf 0 = .ok (.iconst 2, 1) := by decide +kernel
theorem dCu_findOf_1 : decode cCu_findOf 1 = .ok (.istore 4, 2) := by decide +kernel
theorem dCu_findOf_3 : decode cCu_findOf 3 = .ok (.iload 4, 2) := by decide +kernel
theorem dCu_findOf_5 : decode cCu_findOf 5 = .ok (.iload_n 3, 1) := by decide +kernel
theorem dCu_findOf_6 : decode cCu_findOf 6 = .ok (.if_icmp .gt 44, 3) := by decide +kernel
theorem dCu_findOf_9 : decode cCu_findOf 9 = .ok (.aload_n 0, 1) := by decide +kernel
theorem dCu_findOf_10 : decode cCu_findOf 10 = .ok (.aload_n 1, 1) := by decide +kernel
theorem dCu_findOf_11 : decode cCu_findOf 11 = .ok (.getfield 61, 3) := by decide +kernel
theorem dCu_findOf_14 : decode cCu_findOf 14 = .ok (.iload_n 2, 1) := by decide +kernel
theorem dCu_findOf_15 : decode cCu_findOf 15 = .ok (.iaload, 1) := by decide +kernel
theorem dCu_findOf_16 : decode cCu_findOf 16 = .ok (.iconst 1, 1) := by decide +kernel
theorem dCu_findOf_17 : decode cCu_findOf 17 = .ok (.ishr, 1) := by decide +kernel
theorem dCu_findOf_18 : decode cCu_findOf 18 = .ok (.aload_n 1, 1) := by decide +kernel
theorem dCu_findOf_19 : decode cCu_findOf 19 = .ok (.getfield 64, 3) := by decide +kernel
theorem dCu_findOf_22 : decode cCu_findOf 22 = .ok (.iload_n 2, 1) := by decide +kernel
theorem dCu_findOf_23 : decode cCu_findOf 23 = .ok (.iaload, 1) := by decide +kernel
theorem dCu_findOf_24 : decode cCu_findOf 24 = .ok (.iconst 1, 1) := by decide +kernel
theorem dCu_findOf_25 : decode cCu_findOf 25 = .ok (.ishr, 1) := by decide +kernel
theorem dCu_findOf_26 : decode cCu_findOf 26 = .ok (.iload 4, 2) := by decide +kernel
theorem dCu_findOf_28 : decode cCu_findOf 28 = .ok (.aload_n 0, 1) := by decide +kernel
theorem dCu_findOf_29 : decode cCu_findOf 29 = .ok (.getfield 15, 3) := by decide +kernel
theorem dCu_findOf_32 : decode cCu_findOf 32 = .ok (.iload_n 2, 1) := by decide +kernel
theorem dCu_findOf_33 : decode cCu_findOf 33 = .ok (.iaload, 1) := by decide +kernel
theorem dCu_findOf_34 : decode cCu_findOf 34 = .ok (.iconst 1, 1) := by decide +kernel
theorem dCu_findOf_35 : decode cCu_findOf 35 = .ok (.iadd, 1) := by decide +kernel
theorem dCu_findOf_36 : decode cCu_findOf 36 = .ok (.invokevirtual 67, 3) := by decide +kernel
theorem dCu_findOf_39 : decode cCu_findOf 39 = .ok (.ifCond .ne 5, 3) := by decide +kernel
theorem dCu_findOf_42 : decode cCu_findOf 42 = .ok (.iconst 0, 1) := by decide +kernel
theorem dCu_findOf_43 : decode cCu_findOf 43 = .ok (.ireturn, 1) := by decide +kernel
theorem dCu_findOf_44 : decode cCu_findOf 44 = .ok (.iinc 4 1, 3) := by decide +kernel
theorem dCu_findOf_47 : decode cCu_findOf 47 = .ok (.goto (-44), 3) := by decide +kernel
theorem dCu_findOf_50 : decode cCu_findOf 50 = .ok (.sipush 209, 3) := by decide +kernel
theorem dCu_findOf_53 : decode cCu_findOf 53 = .ok (.istore 4, 2) := by decide +kernel
theorem dCu_findOf_55 : decode cCu_findOf 55 = .ok (.aload_n 0, 1) := by decide +kernel
theorem dCu_findOf_56 : decode cCu_findOf 56 = .ok (.getfield 15, 3) := by decide +kernel
theorem dCu_findOf_59 : decode cCu_findOf 59 = .ok (.iload_n 2, 1) := by decide +kernel
theorem dCu_findOf_60 : decode cCu_findOf 60 = .ok (.iaload, 1) := by decide +kernel
theorem dCu_findOf_61 : decode cCu_findOf 61 = .ok (.iconst 1, 1) := by decide +kernel
theorem dCu_findOf_62 : decode cCu_findOf 62 = .ok (.iadd, 1) := by decide +kernel
theorem dCu_findOf_63 : decode cCu_findOf 63 = .ok (.istore 5, 2) := by decide +kernel
theorem dCu_findOf_65 : decode cCu_findOf 65 = .ok (.iload 5, 2) := by decide +kernel
theorem dCu_findOf_67 : decode cCu_findOf 67 = .ok (.aload_n 0, 1) := by decide +kernel
theorem dCu_findOf_68 : decode cCu_findOf 68 = .ok (.getfield 40, 3) := by decide +kernel
theorem dCu_findOf_71 : decode cCu_findOf 71 = .ok (.if_icmp .ge 27, 3) := by decide +kernel
theorem dCu_findOf_74 : decode cCu_findOf 74 = .ok (.iload 4, 2) := by decide +kernel
theorem dCu_findOf_76 : decode cCu_findOf 76 = .ok (.aload_n 0, 1) := by decide +kernel
theorem dCu_findOf_77 : decode cCu_findOf 77 = .ok (.aload_n 0, 1) := by decide +kernel
theorem dCu_findOf_78 : decode cCu_findOf 78 = .ok (.getfield 18, 3) := by decide +kernel
theorem dCu_findOf_81 : decode cCu_findOf 81 = .ok (.iload 5, 2) := by decide +kernel
theorem dCu_findOf_83 : decode cCu_findOf 83 = .ok (.laload, 1) := by decide +kernel
theorem dCu_findOf_84 : decode cCu_findOf 84 = .ok (.invokevirtual 71, 3) := by decide +kernel
theorem dCu_findOf_87 : decode cCu_findOf 87 = .ok (.invokestatic 74, 3) := by decide +kernel
theorem dCu_findOf_90 : decode cCu_findOf 90 = .ok (.istore 4, 2) := by decide +kernel
theorem dCu_findOf_92 : decode cCu_findOf 92 = .ok (.iinc 5 1, 3) := by decide +kernel
theorem dCu_findOf_95 : decode cCu_findOf 95 = .ok (.goto (-30), 3) := by decide +kernel
theorem dCu_findOf_98 : decode cCu_findOf 98 = .ok (.aload_n 0, 1) := by decide +kernel
theorem dCu_findOf_99 : decode cCu_findOf 99 = .ok (.getfield 9, 3) := by decide +kernel
theorem dCu_findOf_102 : decode cCu_findOf 102 = .ok (.iload_n 2, 1) := by decide +kernel
theorem dCu_findOf_103 : decode cCu_findOf 103 = .ok (.iload 4, 2) := by decide +kernel
theorem dCu_findOf_105 : decode cCu_findOf 105 = .ok (.iastore, 1) := by decide +kernel
theorem dCu_findOf_106 : decode cCu_findOf 106 = .ok (.iconst 1, 1) := by decide +kernel
theorem dCu_findOf_107 : decode cCu_findOf 107 = .ok (.ireturn, 1) := by decide +kernel
theorem wv_1331 : Cond.methodLink "CellForge$Cuts" 74 (⟨"java/lang/Math", "min", "(II)I"⟩ : MethodName) ∈ cfB := cf_in 1331 (by decide +kernel) rfl
theorem wv_565 : Cond.fieldLink "CellForge$Cuts" 61 "CellForge$Graph" "low" "[I" ∈ cfB := cf_in 565 (by decide +kernel) rfl
theorem wv_571 : Cond.fieldLink "CellForge$Cuts" 64 "CellForge$Graph" "high" "[I" ∈ cfB := cf_in 571 (by decide +kernel) rfl
theorem wv_1301 : Cond.methodLink "CellForge$Cuts" 67 (⟨"CellForge$Cuts", "joinAll", "(IIII)Z"⟩ : MethodName) ∈ cfB := cf_in 1301 (by decide +kernel) rfl
set_option maxRecDepth 100000 in
theorem wv_1304 : Cond.code (⟨"CellForge$Cuts", "joinAll", "(IIII)Z"⟩ : MethodName) prog_4_method_9_code 13 (Option.some Jvm.ClassFile.FieldType.boolean) ∈ cfB := List.mem_filter.mpr ⟨List.mem_append_right _ (List.mem_append_right _ (List.mem_append_right _ (List.mem_append_right _ (List.mem_append_right _ (List.mem_append_left _ (List.mem_of_getElem? (i := 188) rfl)))))), rfl⟩
theorem wv_1303 : Cond.instanceMethod (⟨"CellForge$Cuts", "joinAll", "(IIII)Z"⟩ : MethodName) ∈ cfB := cf_in 1303 (by decide +kernel) rfl
theorem wv_39 : Cond.selects "CellForge$Cuts" (⟨"CellForge$Cuts", "joinAll", "(IIII)Z"⟩ : MethodName) (⟨"CellForge$Cuts", "joinAll", "(IIII)Z"⟩ : MethodName) ∈ cfB := cf_in 39 (by decide +kernel) rfl
def yCu_find : MethodName := ⟨"CellForge$Cuts", "find", "(LCellForge$Graph;I)Z"⟩
abbrev cCu_find : ByteArray := prog_4_method_7_code
theorem dCu_find_0 : decode cCu_find 0 = .ok (.aload_n 0, 1) := by decide +kernel
theorem dCu_find_1 : decode cCu_find 1 = .ok (.getfield 36, 3) := by decide +kernel
theorem dCu_find_4 : decode cCu_find 4 = .ok (.iload_n 2, 1) := by decide +kernel
theorem dCu_find_5 : decode cCu_find 5 = .ok (.if_icmp .ne 5, 3) := by decide +kernel
theorem dCu_find_8 : decode cCu_find 8 = .ok (.iconst 1, 1) := by decide +kernel
theorem dCu_find_9 : decode cCu_find 9 = .ok (.ireturn, 1) := by decide +kernel
theorem dCu_find_10 : decode cCu_find 10 = .ok (.aload_n 0, 1) := by decide +kernel
theorem dCu_find_11 : decode cCu_find 11 = .ok (.iconst 0, 1) := by decide +kernel
theorem dCu_find_12 : decode cCu_find 12 = .ok (.putfield 36, 3) := by decide +kernel
theorem dCu_find_15 : decode cCu_find 15 = .ok (.aload_n 0, 1) := by decide +kernel
theorem dCu_find_16 : decode cCu_find 16 = .ok (.iconst 0, 1) := by decide +kernel
theorem dCu_find_17 : decode cCu_find 17 = .ok (.putfield 40, 3) := by decide +kernel
theorem dCu_find_20 : decode cCu_find 20 = .ok (.iconst 1, 1) := by decide +kernel
theorem dCu_find_21 : decode cCu_find 21 = .ok (.istore_n 3, 1) := by decide +kernel
theorem dCu_find_22 : decode cCu_find 22 = .ok (.iload_n 3, 1) := by decide +kernel
theorem dCu_find_23 : decode cCu_find 23 = .ok (.aload_n 1, 1) := by decide +kernel
theorem dCu_find_24 : decode cCu_find 24 = .ok (.invokevirtual 43, 3) := by decide +kernel
theorem dCu_find_27 : decode cCu_find 27 = .ok (.if_icmp .ge 70, 3) := by decide +kernel
theorem dCu_find_30 : decode cCu_find 30 = .ok (.aload_n 0, 1) := by decide +kernel
theorem dCu_find_31 : decode cCu_find 31 = .ok (.getfield 15, 3) := by decide +kernel
theorem dCu_find_34 : decode cCu_find 34 = .ok (.iload_n 3, 1) := by decide +kernel
theorem dCu_find_35 : decode cCu_find 35 = .ok (.aload_n 0, 1) := by decide +kernel
theorem dCu_find_36 : decode cCu_find 36 = .ok (.getfield 40, 3) := by decide +kernel
theorem dCu_find_39 : decode cCu_find 39 = .ok (.iastore, 1) := by decide +kernel
theorem dCu_find_40 : decode cCu_find 40 = .ok (.aload_n 0, 1) := by decide +kernel
theorem dCu_find_41 : decode cCu_find 41 = .ok (.getfield 9, 3) := by decide +kernel
theorem dCu_find_44 : decode cCu_find 44 = .ok (.iload_n 3, 1) := by decide +kernel
theorem dCu_find_45 : decode cCu_find 45 = .ok (.iconst 0, 1) := by decide +kernel
theorem dCu_find_46 : decode cCu_find 46 = .ok (.iastore, 1) := by decide +kernel
theorem dCu_find_47 : decode cCu_find 47 = .ok (.aload_n 0, 1) := by decide +kernel
theorem dCu_find_48 : decode cCu_find 48 = .ok (.iload_n 3, 1) := by decide +kernel
theorem dCu_find_49 : decode cCu_find 49 = .ok (.i2l, 1) := by decide +kernel
theorem dCu_find_50 : decode cCu_find 50 = .ok (.lconst 1, 1) := by decide +kernel
theorem dCu_find_51 : decode cCu_find 51 = .ok (.iload_n 3, 1) := by decide +kernel
theorem dCu_find_52 : decode cCu_find 52 = .ok (.bipush 63, 2) := by decide +kernel
theorem dCu_find_54 : decode cCu_find 54 = .ok (.iand, 1) := by decide +kernel
theorem dCu_find_55 : decode cCu_find 55 = .ok (.lshl, 1) := by decide +kernel
theorem dCu_find_56 : decode cCu_find 56 = .ok (.invokevirtual 49, 3) := by decide +kernel
theorem dCu_find_59 : decode cCu_find 59 = .ok (.aload_n 1, 1) := by decide +kernel
theorem dCu_find_60 : decode cCu_find 60 = .ok (.iload_n 3, 1) := by decide +kernel
theorem dCu_find_61 : decode cCu_find 61 = .ok (.invokevirtual 53, 3) := by decide +kernel
theorem dCu_find_64 : decode cCu_find 64 = .ok (.ifCond .eq 15, 3) := by decide +kernel
theorem dCu_find_67 : decode cCu_find 67 = .ok (.aload_n 0, 1) := by decide +kernel
theorem dCu_find_68 : decode cCu_find 68 = .ok (.aload_n 1, 1) := by decide +kernel
theorem dCu_find_69 : decode cCu_find 69 = .ok (.iload_n 3, 1) := by decide +kernel
theorem dCu_find_70 : decode cCu_find 70 = .ok (.iload_n 2, 1) := by decide +kernel
theorem dCu_find_71 : decode cCu_find 71 = .ok (.invokevirtual 57, 3) := by decide +kernel
theorem dCu_find_74 : decode cCu_find 74 = .ok (.ifCond .ne 5, 3) := by decide +kernel
theorem dCu_find_77 : decode cCu_find 77 = .ok (.iconst 0, 1) := by decide +kernel
theorem dCu_find_78 : decode cCu_find 78 = .ok (.ireturn, 1) := by decide +kernel
theorem dCu_find_79 : decode cCu_find 79 = .ok (.aload_n 0, 1) := by decide +kernel
theorem dCu_find_80 : decode cCu_find 80 = .ok (.getfield 15, 3) := by decide +kernel
theorem dCu_find_83 : decode cCu_find 83 = .ok (.iload_n 3, 1) := by decide +kernel
theorem dCu_find_84 : decode cCu_find 84 = .ok (.iconst 1, 1) := by decide +kernel
theorem dCu_find_85 : decode cCu_find 85 = .ok (.iadd, 1) := by decide +kernel
theorem dCu_find_86 : decode cCu_find 86 = .ok (.aload_n 0, 1) := by decide +kernel
theorem dCu_find_87 : decode cCu_find 87 = .ok (.getfield 40, 3) := by decide +kernel
theorem dCu_find_90 : decode cCu_find 90 = .ok (.iastore, 1) := by decide +kernel
theorem dCu_find_91 : decode cCu_find 91 = .ok (.iinc 3 1, 3) := by decide +kernel
theorem dCu_find_94 : decode cCu_find 94 = .ok (.goto (-72), 3) := by decide +kernel
theorem dCu_find_97 : decode cCu_find 97 = .ok (.aload_n 0, 1) := by decide +kernel
theorem dCu_find_98 : decode cCu_find 98 = .ok (.iload_n 2, 1) := by decide +kernel
theorem dCu_find_99 : decode cCu_find 99 = .ok (.putfield 36, 3) := by decide +kernel
theorem dCu_find_102 : decode cCu_find 102 = .ok (.iconst 1, 1) := by decide +kernel
theorem dCu_find_103 : decode cCu_find 103 = .ok (.ireturn, 1) := by decide +kernel
theorem wv_1297 : Cond.methodLink "CellForge$Cuts" 57 (⟨"CellForge$Cuts", "findOf", "(LCellForge$Graph;II)Z"⟩ : MethodName) ∈ cfB := cf_in 1297 (by decide +kernel) rfl
theorem wv_1300 : Cond.code (⟨"CellForge$Cuts", "findOf", "(LCellForge$Graph;II)Z"⟩ : MethodName) prog_4_method_8_code 6 (Option.some Jvm.ClassFile.FieldType.boolean) ∈ cfB := cf_in 1300 (by decide +kernel) rfl
theorem wv_1299 : Cond.instanceMethod (⟨"CellForge$Cuts", "findOf", "(LCellForge$Graph;II)Z"⟩ : MethodName) ∈ cfB := cf_in 1299 (by decide +kernel) rfl
theorem wv_38 : Cond.selects "CellForge$Cuts" (⟨"CellForge$Cuts", "findOf", "(LCellForge$Graph;II)Z"⟩ : MethodName) (⟨"CellForge$Cuts", "findOf", "(LCellForge$Graph;II)Z"⟩ : MethodName) ∈ cfB := cf_in 38 (by decide +kernel) rfl
theorem wv_1296 : Cond.methodLink "CellForge$Cuts" 53 (⟨"CellForge$Graph", "isGate", "(I)Z"⟩ : MethodName) ∈ cfB := cf_in 1296 (by decide +kernel) rfl
theorem wv_264 : Cond.fieldLink "CellForge$Cuts" 36 "CellForge$Cuts" "most" "I" ∈ cfB := cf_in 264 (by decide +kernel) rfl
theorem wv_1277 : Cond.methodLink "CellForge$Cuts" 43 (⟨"CellForge$Graph", "size", "()I"⟩ : MethodName) ∈ cfB := cf_in 1277 (by decide +kernel) rfl
def yFu_inputWord : MethodName := ⟨"CellForge$Functions", "inputWord", "(II)J"⟩
abbrev cFu_inputWord : ByteArray := prog_5_method_3_code
theorem dFu_inputWord_0 : decode cFu_inputWord 0 = .ok (.iload_n 0, 1) := by decide +kernel
theorem dFu_inputWord_1 : decode cFu_inputWord 1 = .ok (.getstatic 52, 3) := by decide +kernel
theorem dFu_inputWord_4 : decode cFu_inputWord 4 = .ok (.arraylength, 1) := by decide +kernel
theorem dFu_inputWord_5 : decode cFu_inputWord 5 = .ok (.if_icmp .ge 9, 3) := by decide +kernel
theorem dFu_inputWord_8 : decode cFu_inputWord 8 = .ok (.getstatic 52, 3) := by decide +kernel
theorem dFu_inputWord_11 : decode cFu_inputWord 11 = .ok (.iload_n 0, 1) := by decide +kernel
theorem dFu_inputWord_12 : decode cFu_inputWord 12 = .ok (.laload, 1) := by decide +kernel
theorem dFu_inputWord_13 : decode cFu_inputWord 13 = .ok (.lreturn, 1) := by decide +kernel
theorem dFu_inputWord_14 : decode cFu_inputWord 14 = .ok (.iload_n 1, 1) := by decide +kernel
theorem dFu_inputWord_15 : decode cFu_inputWord 15 = .ok (.iload_n 0, 1) := by decide +kernel
theorem dFu_inputWord_16 : decode cFu_inputWord 16 = .ok (.getstatic 52, 3) := by decide +kernel
theorem dFu_inputWord_19 : decode cFu_inputWord 19 = .ok (.arraylength, 1) := by decide +kernel
theorem dFu_inputWord_20 : decode cFu_inputWord 20 = .ok (.isub, 1) := by decide +kernel
theorem dFu_inputWord_21 : decode cFu_inputWord 21 = .ok (.ishr, 1) := by decide +kernel
theorem dFu_inputWord_22 : decode cFu_inputWord 22 = .ok (.iconst 1, 1) := by decide +kernel
theorem dFu_inputWord_23 : decode cFu_inputWord 23 = .ok (.iand, 1) := by decide +kernel
theorem dFu_inputWord_24 : decode cFu_inputWord 24 = .ok (.i2l, 1) := by decide +kernel
theorem dFu_inputWord_25 : decode cFu_inputWord 25 = .ok (.lneg, 1) := by decide +kernel
theorem dFu_inputWord_26 : decode cFu_inputWord 26 = .ok (.lreturn, 1) := by decide +kernel
theorem wv_1170 : Cond.fieldLink "CellForge$Functions" 52 "CellForge$Functions" "PATTERNS" "[J" ∈ cfB := cf_in 1170 (by decide +kernel) rfl
def yFu_word : MethodName := ⟨"CellForge$Functions", "word", "(II)J"⟩
abbrev cFu_word : ByteArray := prog_5_method_4_code
theorem dFu_word_0 : decode cFu_word 0 = .ok (.aload_n 0, 1) := by decide +kernel
theorem dFu_word_1 : decode cFu_word 1 = .ok (.getfield 11, 3) := by decide +kernel
theorem dFu_word_4 : decode cFu_word 4 = .ok (.iload_n 1, 1) := by decide +kernel
theorem dFu_word_5 : decode cFu_word 5 = .ok (.iconst 1, 1) := by decide +kernel
theorem dFu_word_6 : decode cFu_word 6 = .ok (.ishr, 1) := by decide +kernel
theorem dFu_word_7 : decode cFu_word 7 = .ok (.iconst 4, 1) := by decide +kernel
theorem dFu_word_8 : decode cFu_word 8 = .ok (.imul, 1) := by decide +kernel
theorem dFu_word_9 : decode cFu_word 9 = .ok (.iload_n 2, 1) := by decide +kernel
theorem dFu_word_10 : decode cFu_word 10 = .ok (.iadd, 1) := by decide +kernel
theorem dFu_word_11 : decode cFu_word 11 = .ok (.laload, 1) := by decide +kernel
theorem dFu_word_12 : decode cFu_word 12 = .ok (.iload_n 1, 1) := by decide +kernel
theorem dFu_word_13 : decode cFu_word 13 = .ok (.iconst 1, 1) := by decide +kernel
theorem dFu_word_14 : decode cFu_word 14 = .ok (.iand, 1) := by decide +kernel
theorem dFu_word_15 : decode cFu_word 15 = .ok (.i2l, 1) := by decide +kernel
theorem dFu_word_16 : decode cFu_word 16 = .ok (.lneg, 1) := by decide +kernel
theorem dFu_word_17 : decode cFu_word 17 = .ok (.lxor, 1) := by decide +kernel
theorem dFu_word_18 : decode cFu_word 18 = .ok (.lreturn, 1) := by decide +kernel
def yFu_find : MethodName := ⟨"CellForge$Functions", "find", "(LCellForge$Graph;)V"⟩
abbrev cFu_find : ByteArray := prog_5_method_2_code
theorem dFu_find_0 : decode cFu_find 0 = .ok (.aload_n 0, 1) := by decide +kernel
theorem dFu_find_1 : decode cFu_find 1 = .ok (.getfield 25, 3) := by decide +kernel
theorem dFu_find_4 : decode cFu_find 4 = .ok (.ifCond .eq 4, 3) := by decide +kernel
theorem dFu_find_7 : decode cFu_find 7 = .ok (.return_, 1) := by decide +kernel
theorem dFu_find_8 : decode cFu_find 8 = .ok (.iconst 0, 1) := by decide +kernel
theorem dFu_find_9 : decode cFu_find 9 = .ok (.istore_n 2, 1) := by decide +kernel
theorem dFu_find_10 : decode cFu_find 10 = .ok (.iload_n 2, 1) := by decide +kernel
theorem dFu_find_11 : decode cFu_find 11 = .ok (.iconst 4, 1) := by decide +kernel
theorem dFu_find_12 : decode cFu_find 12 = .ok (.if_icmp .ge 96, 3) := by decide +kernel
theorem dFu_find_15 : decode cFu_find 15 = .ok (.iconst 0, 1) := by decide +kernel
theorem dFu_find_16 : decode cFu_find 16 = .ok (.istore_n 3, 1) := by decide +kernel
theorem dFu_find_17 : decode cFu_find 17 = .ok (.iload_n 3, 1) := by decide +kernel
theorem dFu_find_18 : decode cFu_find 18 = .ok (.aload_n 1, 1) := by decide +kernel
theorem dFu_find_19 : decode cFu_find 19 = .ok (.getfield 29, 3) := by decide +kernel
theorem dFu_find_22 : decode cFu_find 22 = .ok (.if_icmp .ge 26, 3) := by decide +kernel
theorem dFu_find_25 : decode cFu_find 25 = .ok (.aload_n 0, 1) := by decide +kernel
theorem dFu_find_26 : decode cFu_find 26 = .ok (.getfield 11, 3) := by decide +kernel
theorem dFu_find_29 : decode cFu_find 29 = .ok (.iload_n 3, 1) := by decide +kernel
theorem dFu_find_30 : decode cFu_find 30 = .ok (.iconst 1, 1) := by decide +kernel
theorem dFu_find_31 : decode cFu_find 31 = .ok (.iadd, 1) := by decide +kernel
theorem dFu_find_32 : decode cFu_find 32 = .ok (.iconst 4, 1) := by decide +kernel
theorem dFu_find_33 : decode cFu_find 33 = .ok (.imul, 1) := by decide +kernel
theorem dFu_find_34 : decode cFu_find 34 = .ok (.iload_n 2, 1) := by decide +kernel
theorem dFu_find_35 : decode cFu_find 35 = .ok (.iadd, 1) := by decide +kernel
theorem dFu_find_36 : decode cFu_find 36 = .ok (.iload_n 3, 1) := by decide +kernel
theorem dFu_find_37 : decode cFu_find 37 = .ok (.iload_n 2, 1) := by decide +kernel
theorem dFu_find_38 : decode cFu_find 38 = .ok (.invokestatic 35, 3) := by decide +kernel
theorem dFu_find_41 : decode cFu_find 41 = .ok (.lastore, 1) := by decide +kernel
theorem dFu_find_42 : decode cFu_find 42 = .ok (.iinc 3 1, 3) := by decide +kernel
theorem dFu_find_45 : decode cFu_find 45 = .ok (.goto (-28), 3) := by decide +kernel
theorem dFu_find_48 : decode cFu_find 48 = .ok (.aload_n 1, 1) := by decide +kernel
theorem dFu_find_49 : decode cFu_find 49 = .ok (.getfield 29, 3) := by decide +kernel
theorem dFu_find_52 : decode cFu_find 52 = .ok (.iconst 1, 1) := by decide +kernel
theorem dFu_find_53 : decode cFu_find 53 = .ok (.iadd, 1) := by decide +kernel
theorem dFu_find_54 : decode cFu_find 54 = .ok (.istore_n 3, 1) := by decide +kernel
theorem dFu_find_55 : decode cFu_find 55 = .ok (.iload_n 3, 1) := by decide +kernel
theorem dFu_find_56 : decode cFu_find 56 = .ok (.aload_n 1, 1) := by decide +kernel
theorem dFu_find_57 : decode cFu_find 57 = .ok (.invokevirtual 39, 3) := by decide +kernel
theorem dFu_find_60 : decode cFu_find 60 = .ok (.if_icmp .ge 42, 3) := by decide +kernel
theorem dFu_find_63 : decode cFu_find 63 = .ok (.aload_n 0, 1) := by decide +kernel
theorem dFu_find_64 : decode cFu_find 64 = .ok (.getfield 11, 3) := by decide +kernel
theorem dFu_find_67 : decode cFu_find 67 = .ok (.iload_n 3, 1) := by decide +kernel
theorem dFu_find_68 : decode cFu_find 68 = .ok (.iconst 4, 1) := by decide +kernel
theorem dFu_find_69 : decode cFu_find 69 = .ok (.imul, 1) := by decide +kernel
theorem dFu_find_70 : decode cFu_find 70 = .ok (.iload_n 2, 1) := by decide +kernel
theorem dFu_find_71 : decode cFu_find 71 = .ok (.iadd, 1) := by decide +kernel
theorem dFu_find_72 : decode cFu_find 72 = .ok (.aload_n 0, 1) := by decide +kernel
theorem dFu_find_73 : decode cFu_find 73 = .ok (.aload_n 1, 1) := by decide +kernel
theorem dFu_find_74 : decode cFu_find 74 = .ok (.getfield 43, 3) := by decide +kernel
theorem dFu_find_77 : decode cFu_find 77 = .ok (.iload_n 3, 1) := by decide +kernel
theorem dFu_find_78 : decode cFu_find 78 = .ok (.iaload, 1) := by decide +kernel
theorem dFu_find_79 : decode cFu_find 79 = .ok (.iload_n 2, 1) := by decide +kernel
theorem dFu_find_80 : decode cFu_find 80 = .ok (.invokevirtual 46, 3) := by decide +kernel
theorem dFu_find_83 : decode cFu_find 83 = .ok (.aload_n 0, 1) := by decide +kernel
theorem dFu_find_84 : decode cFu_find 84 = .ok (.aload_n 1, 1) := by decide +kernel
theorem dFu_find_85 : decode cFu_find 85 = .ok (.getfield 49, 3) := by decide +kernel
theorem dFu_find_88 : decode cFu_find 88 = .ok (.iload_n 3, 1) := by decide +kernel
theorem dFu_find_89 : decode cFu_find 89 = .ok (.iaload, 1) := by decide +kernel
theorem dFu_find_90 : decode cFu_find 90 = .ok (.iload_n 2, 1) := by decide +kernel
theorem dFu_find_91 : decode cFu_find 91 = .ok (.invokevirtual 46, 3) := by decide +kernel
theorem dFu_find_94 : decode cFu_find 94 = .ok (.land, 1) := by decide +kernel
theorem dFu_find_95 : decode cFu_find 95 = .ok (.lastore, 1) := by decide +kernel
theorem dFu_find_96 : decode cFu_find 96 = .ok (.iinc 3 1, 3) := by decide +kernel
theorem dFu_find_99 : decode cFu_find 99 = .ok (.goto (-44), 3) := by decide +kernel
theorem dFu_find_102 : decode cFu_find 102 = .ok (.iinc 2 1, 3) := by decide +kernel
theorem dFu_find_105 : decode cFu_find 105 = .ok (.goto (-95), 3) := by decide +kernel
theorem dFu_find_108 : decode cFu_find 108 = .ok (.aload_n 0, 1) := by decide +kernel
theorem dFu_find_109 : decode cFu_find 109 = .ok (.iconst 1, 1) := by decide +kernel
theorem dFu_find_110 : decode cFu_find 110 = .ok (.putfield 25, 3) := by decide +kernel
theorem dFu_find_113 : decode cFu_find 113 = .ok (.return_, 1) := by decide +kernel
theorem wv_1172 : Cond.methodLink "CellForge$Functions" 39 (⟨"CellForge$Graph", "size", "()I"⟩ : MethodName) ∈ cfB := cf_in 1172 (by decide +kernel) rfl
theorem wv_561 : Cond.fieldLink "CellForge$Functions" 43 "CellForge$Graph" "low" "[I" ∈ cfB := cf_in 561 (by decide +kernel) rfl
theorem wv_1173 : Cond.methodLink "CellForge$Functions" 46 (⟨"CellForge$Functions", "word", "(II)J"⟩ : MethodName) ∈ cfB := cf_in 1173 (by decide +kernel) rfl
theorem wv_1176 : Cond.code (⟨"CellForge$Functions", "word", "(II)J"⟩ : MethodName) prog_5_method_4_code 3 (Option.some Jvm.ClassFile.FieldType.long) ∈ cfB := cf_in 1176 (by decide +kernel) rfl
theorem wv_1175 : Cond.instanceMethod (⟨"CellForge$Functions", "word", "(II)J"⟩ : MethodName) ∈ cfB := cf_in 1175 (by decide +kernel) rfl
theorem wv_25 : Cond.selects "CellForge$Functions" (⟨"CellForge$Functions", "word", "(II)J"⟩ : MethodName) (⟨"CellForge$Functions", "word", "(II)J"⟩ : MethodName) ∈ cfB := cf_in 25 (by decide +kernel) rfl
theorem wv_567 : Cond.fieldLink "CellForge$Functions" 49 "CellForge$Graph" "high" "[I" ∈ cfB := cf_in 567 (by decide +kernel) rfl
theorem wv_548 : Cond.fieldLink "CellForge$Functions" 29 "CellForge$Graph" "inputs" "I" ∈ cfB := cf_in 548 (by decide +kernel) rfl
theorem wv_1167 : Cond.methodLink "CellForge$Functions" 35 (⟨"CellForge$Functions", "inputWord", "(II)J"⟩ : MethodName) ∈ cfB := cf_in 1167 (by decide +kernel) rfl
theorem wv_1169 : Cond.code (⟨"CellForge$Functions", "inputWord", "(II)J"⟩ : MethodName) prog_5_method_3_code 2 (Option.some Jvm.ClassFile.FieldType.long) ∈ cfB := cf_in 1169 (by decide +kernel) rfl
theorem wv_1168 : Cond.static (⟨"CellForge$Functions", "inputWord", "(II)J"⟩ : MethodName) ∈ cfB := cf_in 1168 (by decide +kernel) rfl
theorem wv_240 : Cond.fieldLink "CellForge$Functions" 25 "CellForge$Functions" "known" "Z" ∈ cfB := cf_in 240 (by decide +kernel) rfl
set_option maxHeartbeats 4000000 in
set_option maxRecDepth 100000 in
theorem bJString_coder__S16_14 {p : Program} {l : Launch} {e : Env} {s : State} {m : MethodId} {below : List Frame} {meth : Method} {c : Code} {A : Nat → Prop} {D : va_G} {K : Nat → ClassId} {AR : Array Value} (C : (dc_C p s m AR meth c cJString_coder_ 1 (Option.some Jvm.ClassFile.FieldType.byte) yJString_coder_ ∧ cf_E D K A s s.heap ∧ ∀ q, s.heap.size ≤ q → A q)) (s0 : Int32) (r : Int32) (h : fJString_coder__S16_14 s0 = some r) {H : Heap} {locs : List Loc} {ls : Array Slot} (hP : va_P D vwCl ([]) H) (hD : va_D A ([])) (hS : va_S A s.heap H locs) (hl : lv_has ls 1 []) : W p l e ({ frames := 0, cells := 0, slots := 0, locals := 0 }) s m AR below meth c H locs 0 0 (MQ below (va_Qi (fun (x : Int32) (_ : Unit) => x = r) (fun (_ : Unit) t => cf_At D A ([]) t) A) AR s 0 0 A) (F0 m 14 ls [.int s0]) := by
  obtain ⟨⟨hx, hb, hr, hts, hown, hlocks, hin, hml⟩, hE, hA⟩ := id C
  have hK := hE.k
  obtain ⟨hz_1, h⟩ := op_w h
  obtain rfl := Option.some.inj h
  exact dc_zretn hx hb hr (op_nb hz_1) hlocks rfl hP hD hS dJString_coder__14
set_option maxHeartbeats 4000000 in
set_option maxRecDepth 100000 in
theorem bJString_coder__S16_0 {p : Program} {l : Launch} {e : Env} {s : State} {m : MethodId} {below : List Frame} {meth : Method} {c : Code} {A : Nat → Prop} {D : va_G} {K : Nat → ClassId} {AR : Array Value} (C : (dc_C p s m AR meth c cJString_coder_ 1 (Option.some Jvm.ClassFile.FieldType.byte) yJString_coder_ ∧ cf_E D K A s s.heap ∧ ∀ q, s.heap.size ≤ q → A q)) (r : Int32) (h : fJString_coder__S16_0 = some r) {H : Heap} {locs : List Loc} {ls : Array Slot} (hP : va_P D vwCl ([]) H) (hD : va_D A ([])) (hS : va_S A s.heap H locs) (hl : lv_has ls 1 [(0, .ref (K 116))]) : W p l e ({ frames := 0, cells := 0, slots := 0, locals := 0 }) s m AR below meth c H locs 0 0 (MQ below (va_Qi (fun (x : Int32) (_ : Unit) => x = r) (fun (_ : Unit) t => cf_At D A ([]) t) A) AR s 0 0 A) (F0 m 0 ls []) := by
  obtain ⟨⟨hx, hb, hr, hts, hown, hlocks, hin, hml⟩, hE, hA⟩ := id C
  have hK := hE.k
  refine va_gets hx hb hE.2.2.2.2.2.2.1 hS hown (hts _ wv_764) (fun _ h9 => h9) dJString_coder__0 ?_
  refine lv_if_eq (tgt := 13) hx hb dJString_coder__3 (by decide) (fun c_1 => absurd c_1 (by decide)) (fun _ => ?_)
  refine lv_aload_n hx hb dJString_coder__6 rfl (lv_at hl 0 rfl) ?_
  refine vk_getf hx hb (hE.s 16 rfl).2.2.1 hS hown (hts _ wv_1736) (fun _ h9 => h9) dJString_coder__7 ?_
  refine lv_goto (tgt := 14) hx hb dJString_coder__10 (by decide) ?_
  exact bJString_coder__S16_14 C _ _ h hP hD hS (lv_sub hl [] rfl)
set_option maxRecDepth 100000 in
theorem mJString_coder__S16 (l : Launch) (D : va_G) (K : Nat → ClassId) (sz : Nat) (r : Int32) (h : fJString_coder__S16 = some r) : Met l yJString_coder_ (Cond.code yJString_coder_ cJString_coder_ 1 (Option.some Jvm.ClassFile.FieldType.byte) :: cfB) ({ frames := 0, cells := 0, slots := 0, locals := 0 }) (va_Pc [.ref (K 116)] (cf_Pre D K sz ([]))) (va_Qi (fun (x : Int32) (_ : Unit) => x = r) (fun (_ : Unit) t => cf_At D (va_A ([]) sz) ([]) t) (va_A ([]) sz)) 0 0 (va_A ([]) sz) := by
  refine cf_ofW (y := yJString_coder_) (As := [.ref (K 116)]) (WS := []) (maxL := 1) (fun A => (va_Qi (fun (x : Int32) (_ : Unit) => x = r) (fun (_ : Unit) t => cf_At D A ([]) t) A)) (by decide) (Nat.le_of_ble_eq_true rfl) ?_
  intro p e s m below meth c A ls En hsz hA hP hD hE hS hl
  have C : (dc_C p s m (([.ref (K 116)] : List Value).toArray) meth c cJString_coder_ 1 (Option.some Jvm.ClassFile.FieldType.byte) yJString_coder_ ∧ cf_E D K A s s.heap ∧ ∀ q, s.heap.size ≤ q → A q) := ⟨En, hE, hA⟩
  exact bJString_coder__S16_0 C r h hP hD hS hl
set_option maxHeartbeats 4000000 in
set_option maxRecDepth 100000 in
theorem bJString_length__S16_0 {p : Program} {l : Launch} {e : Env} {s : State} {m : MethodId} {below : List Frame} {meth : Method} {c : Code} {A : Nat → Prop} {D : va_G} {K : Nat → ClassId} {AR : Array Value} (C : (dc_C p s m AR meth c cJString_length_ 1 (Option.some Jvm.ClassFile.FieldType.int) yJString_length_ ∧ cf_E D K A s s.heap ∧ ∀ q, s.heap.size ≤ q → A q)) (r : Int32) (h : fJString_length__S16_0 = some r) {H : Heap} {locs : List Loc} {ls : Array Slot} (hP : va_P D vwCl ([]) H) (hD : va_D A ([])) (hS : va_S A s.heap H locs) (hl : lv_has ls 1 [(0, .ref (K 116))]) : W p l e ({ frames := 1, cells := 0, slots := 0, locals := 20 }) s m AR below meth c H locs 0 0 (MQ below (va_Qi (fun (x : Int32) (_ : Unit) => x = r) (fun (_ : Unit) t => cf_At D A ([]) t) A) AR s 0 0 A) (F0 m 0 ls []) := by
  obtain ⟨⟨hx, hb, hr, hts, hown, hlocks, hin, hml⟩, hE, hA⟩ := id C
  have hK := hE.k
  refine lv_aload_n hx hb dJString_length__0 rfl (lv_at hl 0 rfl) ?_
  refine vk_getf hx hb (hE.s 16 rfl).2.2.2.1 hS hown (hts _ wv_1735) (fun _ h9 => h9) dJString_length__1 ?_
  refine va_tlen (v := 5) hx hb (hE.s 16 rfl).2.2.2.2 hS rfl dJString_length__4 ?_
  refine lv_aload_n hx hb dJString_length__5 rfl (lv_at hl 0 rfl) ?_
  obtain ⟨q_1, hq_1, h⟩ := op_b h
  refine cf_calli (wc := []) (wr := []) (va_runV (As := []) (rest := [.int 5]) ⟨hx, hb, hml, hown, hts⟩ (mJString_coder__S16 l D K _ _ hq_1) (cwV 0 hts (cf_GV wv_760 wv_761 wv_762 wv_168 wv_763) rfl rfl rfl (by decide +kernel) ⟨Nat.le_of_ble_eq_true rfl, Nat.le_of_ble_eq_true rfl⟩) (cf_preO (wc := []) (hE.s 16 rfl).2.1 hE hP hD hS hA [] rfl (by decide +kernel)) rfl rfl hl.1 rfl (lv_room (Nat.le_of_ble_eq_true rfl)) dJString_length__6 ⟨Nat.le_of_ble_eq_true rfl, Nat.le_of_ble_eq_true rfl⟩) hP hD hS hA [] [] rfl rfl (by decide +kernel) (by decide +kernel) (fun r_2 _ H locs hw_3 hP hD hS => ?_)
  subst r_2
  have hP : va_P D vwCl ([]) H := hP.sub [] rfl
  have hD : va_D A ([]) := hD.sub [] (by decide +kernel) rfl
  refine lv_ishr hx hb dJString_length__9 ?_
  refine lv_topi (fun x_4 ex_4 => ?_)
  have h := op_ks ex_4 h
  obtain rfl := Option.some.inj h
  exact dc_iret hx hb hr hlocks rfl hP hD hS dJString_length__10
set_option maxRecDepth 100000 in
theorem mJString_length__S16 (l : Launch) (D : va_G) (K : Nat → ClassId) (sz : Nat) (r : Int32) (h : fJString_length__S16 = some r) : Met l yJString_length_ (Cond.code yJString_length_ cJString_length_ 1 (Option.some Jvm.ClassFile.FieldType.int) :: cfB) ({ frames := 1, cells := 0, slots := 0, locals := 20 }) (va_Pc [.ref (K 116)] (cf_Pre D K sz ([]))) (va_Qi (fun (x : Int32) (_ : Unit) => x = r) (fun (_ : Unit) t => cf_At D (va_A ([]) sz) ([]) t) (va_A ([]) sz)) 0 0 (va_A ([]) sz) := by
  refine cf_ofW (y := yJString_length_) (As := [.ref (K 116)]) (WS := []) (maxL := 1) (fun A => (va_Qi (fun (x : Int32) (_ : Unit) => x = r) (fun (_ : Unit) t => cf_At D A ([]) t) A)) (by decide) (Nat.le_of_ble_eq_true rfl) ?_
  intro p e s m below meth c A ls En hsz hA hP hD hE hS hl
  have C : (dc_C p s m (([.ref (K 116)] : List Value).toArray) meth c cJString_length_ 1 (Option.some Jvm.ClassFile.FieldType.int) yJString_length_ ∧ cf_E D K A s s.heap ∧ ∀ q, s.heap.size ≤ q → A q) := ⟨En, hE, hA⟩
  exact bJString_length__S16_0 C r h hP hD hS hl
set_option maxHeartbeats 4000000 in
set_option maxRecDepth 100000 in
theorem bAS_inflateIfNeededFor_S16_21 {p : Program} {l : Launch} {e : Env} {s : State} {m : MethodId} {below : List Frame} {meth : Method} {c : Code} {A : Nat → Prop} {D : va_G} {K : Nat → ClassId} {h0 : Nat} {a0 : Nat → Nat} {AR : Array Value} (C : (dc_C p s m AR meth c cAS_inflateIfNeededFor 2 (Option.none : Option Jvm.ClassFile.FieldType) yAS_inflateIfNeededFor ∧ cf_E D K A s s.heap ∧ ∀ q, s.heap.size ≤ q → A q)) (o0 : cf_O) (r : Unit) (h : fAS_inflateIfNeededFor_S16_21 o0 = some r) {H : Heap} {locs : List Loc} {ls : Array Slot} (hP : va_P D vwCl (wSB K h0 a0 o0) H) (hD : va_D A (wSB K h0 a0 o0)) (hS : va_S A s.heap H locs) (hl : lv_has ls 2 []) : W p l e ({ frames := 1, cells := 0, slots := 0, locals := 20 }) s m AR below meth c H locs 0 0 (MQ below (va_Qv (fun (_ : Unit) => True) (fun (_ : Unit) t => cf_At D A (wSB K h0 a0 o0) t) A) AR s 0 0 A) (F0 m 21 ls []) := by
  obtain ⟨⟨hx, hb, hr, hts, hown, hlocks, hin, hml⟩, hE, hA⟩ := id C
  have hK := hE.k
  obtain rfl := Option.some.inj h
  exact dc_vret hx hb hr hlocks rfl hP hD hS dAS_inflateIfNeededFor_21
set_option maxHeartbeats 4000000 in
set_option maxRecDepth 100000 in
theorem bAS_inflateIfNeededFor_S16_0 {p : Program} {l : Launch} {e : Env} {s : State} {m : MethodId} {below : List Frame} {meth : Method} {c : Code} {A : Nat → Prop} {D : va_G} {K : Nat → ClassId} {h0 : Nat} {a0 : Nat → Nat} {AR : Array Value} (C : (dc_C p s m AR meth c cAS_inflateIfNeededFor 2 (Option.none : Option Jvm.ClassFile.FieldType) yAS_inflateIfNeededFor ∧ cf_E D K A s s.heap ∧ ∀ q, s.heap.size ≤ q → A q)) (o0 : cf_O) (r : Unit) (h : fAS_inflateIfNeededFor_S16_0 o0 = some r) {H : Heap} {locs : List Loc} {ls : Array Slot} (hP : va_P D vwCl (wSB K h0 a0 o0) H) (hD : va_D A (wSB K h0 a0 o0)) (hS : va_S A s.heap H locs) (hl : lv_has ls 2 [(0, .ref h0), (1, .ref (K 116))]) : W p l e ({ frames := 1, cells := 0, slots := 0, locals := 20 }) s m AR below meth c H locs 0 0 (MQ below (va_Qv (fun (_ : Unit) => True) (fun (_ : Unit) t => cf_At D A (wSB K h0 a0 o0) t) A) AR s 0 0 A) (F0 m 0 ls []) := by
  obtain ⟨⟨hx, hb, hr, hts, hown, hlocks, hin, hml⟩, hE, hA⟩ := id C
  have hK := hE.k
  refine va_gets hx hb hE.2.2.2.2.2.2.1 hS hown (hts _ wv_444) (fun _ h9 => h9) dAS_inflateIfNeededFor_0 ?_
  refine lv_if_eq (tgt := 21) hx hb dAS_inflateIfNeededFor_3 (by decide) (fun c_1 => absurd c_1 (by decide)) (fun _ => ?_)
  refine lv_aload_n hx hb dAS_inflateIfNeededFor_6 rfl (lv_at hl 0 rfl) ?_
  refine va_get (D := D) (ci := 13) (v := .int (o0.1 1)) (C := RSB) (T := TSB) (N := 4) hx hb hts inSB hown hK hP 0 rfl rfl 1 (by decide) (hts _ wv_454) (fun _ h9 => h9) rfl dAS_inflateIfNeededFor_7 ?_
  refine lv_aload_n hx hb dAS_inflateIfNeededFor_10 rfl (lv_at hl 1 rfl) ?_
  obtain ⟨q_2, hq_2, h⟩ := op_b h
  refine cf_calli (wc := []) (wr := wSB K h0 a0 o0) (va_runV (As := []) (rest := [.int (o0.1 1)]) ⟨hx, hb, hml, hown, hts⟩ (mJString_coder__S16 l D K _ _ hq_2) (cwV 0 hts (cf_GV wv_1619 wv_761 wv_762 wv_168 wv_763) rfl rfl rfl (by decide +kernel) ⟨Nat.le_of_ble_eq_true rfl, Nat.le_of_ble_eq_true rfl⟩) (cf_preO (wc := []) (hE.s 16 rfl).2.1 hE hP hD hS hA [] rfl (by decide +kernel)) rfl rfl hl.1 rfl (lv_room (Nat.le_of_ble_eq_true rfl)) dAS_inflateIfNeededFor_11 ⟨Nat.le_of_ble_eq_true rfl, Nat.le_of_ble_eq_true rfl⟩) hP hD hS hA [] [0, 1] rfl rfl (by decide +kernel) (by decide +kernel) (fun r_3 _ H locs hw_4 hP hD hS => ?_)
  subst r_3
  have hP : va_P D vwCl (wSB K h0 a0 o0) H := hP.sub [0, 1] rfl
  have hD : va_D A (wSB K h0 a0 o0) := hD.sub [0, 1] (by decide +kernel) rfl
  refine lv_icmp_eq (tgt := 21) hx hb dAS_inflateIfNeededFor_14 (by decide) (fun c_5 => ?_) (fun c_5 => ?_)
  · have h := op_t c_5 h
    exact bAS_inflateIfNeededFor_S16_21 C _ _ h hP hD hS (lv_sub hl [] rfl)
  · have h := op_f c_5 h
    refine lv_aload_n hx hb dAS_inflateIfNeededFor_17 rfl (lv_at hl 0 rfl) ?_
    cases h
set_option maxRecDepth 100000 in
theorem mAS_inflateIfNeededFor_S16 (l : Launch) (D : va_G) (K : Nat → ClassId) (sz : Nat) (h0 : Nat) (a0 : Nat → Nat) (o0 : cf_O) (r : Unit) (h : fAS_inflateIfNeededFor_S16 o0 = some r) : Met l yAS_inflateIfNeededFor (Cond.code yAS_inflateIfNeededFor cAS_inflateIfNeededFor 2 (Option.none : Option Jvm.ClassFile.FieldType) :: cfB) ({ frames := 1, cells := 0, slots := 0, locals := 20 }) (va_Pc [.ref h0, .ref (K 116)] (cf_Pre D K sz (wSB K h0 a0 o0))) (va_Qv (fun (_ : Unit) => True) (fun (_ : Unit) t => cf_At D (va_A (wSB K h0 a0 o0) sz) (wSB K h0 a0 o0) t) (va_A (wSB K h0 a0 o0) sz)) 0 0 (va_A (wSB K h0 a0 o0) sz) := by
  refine cf_ofW (y := yAS_inflateIfNeededFor) (As := [.ref h0, .ref (K 116)]) (WS := wSB K h0 a0 o0) (maxL := 2) (fun A => (va_Qv (fun (_ : Unit) => True) (fun (_ : Unit) t => cf_At D A (wSB K h0 a0 o0) t) A)) (by decide) (Nat.le_of_ble_eq_true rfl) ?_
  intro p e s m below meth c A ls En hsz hA hP hD hE hS hl
  have C : (dc_C p s m (([.ref h0, .ref (K 116)] : List Value).toArray) meth c cAS_inflateIfNeededFor 2 (Option.none : Option Jvm.ClassFile.FieldType) yAS_inflateIfNeededFor ∧ cf_E D K A s s.heap ∧ ∀ q, s.heap.size ≤ q → A q) := ⟨En, hE, hA⟩
  exact bAS_inflateIfNeededFor_S16_0 C o0 r h hP hD hS hl
set_option maxRecDepth 100000 in
theorem nJString_getBytes_ABIB_S16_SB0_0 (v2 : Int32) (v3 : Int32) (o0 : cf_O) (r : cf_O) (h : fJString_getBytes_ABIB_S16_SB0_0 v2 v3 o0 = some r) : phSB o0 ≤ phSB r := by
  have hm : phSB o0 ≤ phSB o0 := Nat.le_refl _
  obtain ⟨q_1, hq_1, h⟩ := op_b h
  rcases (Classical.em (q_1 = v3)).symm with c_4 | c_4
  · have h := op_f c_4 h
    cases h
  · have h := op_t c_4 h
    obtain ⟨x_5, ex_5, h⟩ := op_kx h
    obtain ⟨hi_6, h⟩ := op_n h
    obtain ⟨o_7, eo_7, h⟩ := op_kx h
    have hm : phSB o0 ≤ phSB o_7 := by rw [eo_7]; exact hm
    obtain rfl := Option.some.inj h
    exact hm
theorem nJString_getBytes_ABIB_S16_SB0 (v2 : Int32) (v3 : Int32) (o0 : cf_O) (r : cf_O) (h : fJString_getBytes_ABIB_S16_SB0 v2 v3 o0 = some r) : phSB o0 ≤ phSB r := nJString_getBytes_ABIB_S16_SB0_0  v2 v3 o0 r h
set_option maxHeartbeats 4000000 in
set_option maxRecDepth 100000 in
theorem bJString_getBytes_ABIB_S16_SB0_0 {p : Program} {l : Launch} {e : Env} {s : State} {m : MethodId} {below : List Frame} {meth : Method} {c : Code} {A : Nat → Prop} {D : va_G} {K : Nat → ClassId} {h0 : Nat} {a0 : Nat → Nat} {AR : Array Value} (C : (dc_C p s m AR meth c cJString_getBytes_ABIB 4 (Option.none : Option Jvm.ClassFile.FieldType) yJString_getBytes_ABIB ∧ cf_E D K A s s.heap ∧ ∀ q, s.heap.size ≤ q → A q)) (v2 : Int32) (v3 : Int32) (o0 : cf_O) (r : cf_O) (h : fJString_getBytes_ABIB_S16_SB0_0 v2 v3 o0 = some r) {H : Heap} {locs : List Loc} {ls : Array Slot} (hP : va_P D vwCl (wSB K h0 a0 o0) H) (hD : va_D A (wSB K h0 a0 o0)) (hS : va_S A s.heap H locs) (hl : lv_has ls 4 [(0, .ref (K 116)), (1, .ref (a0 0)), (2, .int v2), (3, .int v3)]) : W p l e ({ frames := 1, cells := 0, slots := 0, locals := 60 }) s m AR below meth c H locs 0 0 (MQ below (va_Qv (fun (_ : Unit) => True) (fun (_ : Unit) t => cf_At D A (wSB K h0 a0 r) t) A) AR s 0 0 A) (F0 m 0 ls []) := by
  obtain ⟨⟨hx, hb, hr, hts, hown, hlocks, hin, hml⟩, hE, hA⟩ := id C
  have hK := hE.k
  refine lv_aload_n hx hb dJString_getBytes_ABIB_0 rfl (lv_at hl 0 rfl) ?_
  obtain ⟨q_1, hq_1, h⟩ := op_b h
  refine cf_calli (wc := []) (wr := wSB K h0 a0 o0) (va_runV (As := []) (rest := []) ⟨hx, hb, hml, hown, hts⟩ (mJString_coder__S16 l D K _ _ hq_1) (cwV 0 hts (cf_GV wv_760 wv_761 wv_762 wv_168 wv_763) rfl rfl rfl (by decide +kernel) ⟨Nat.le_of_ble_eq_true rfl, Nat.le_of_ble_eq_true rfl⟩) (cf_preO (wc := []) (hE.s 16 rfl).2.1 hE hP hD hS hA [] rfl (by decide +kernel)) rfl rfl hl.1 rfl (lv_room (Nat.le_of_ble_eq_true rfl)) dJString_getBytes_ABIB_1 ⟨Nat.le_of_ble_eq_true rfl, Nat.le_of_ble_eq_true rfl⟩) hP hD hS hA [] [0, 1] rfl rfl (by decide +kernel) (by decide +kernel) (fun r_2 _ H locs hw_3 hP hD hS => ?_)
  subst r_2
  have hP : va_P D vwCl (wSB K h0 a0 o0) H := hP.sub [0, 1] rfl
  have hD : va_D A (wSB K h0 a0 o0) := hD.sub [0, 1] (by decide +kernel) rfl
  refine lv_iload_n hx hb dJString_getBytes_ABIB_4 rfl (lv_at hl 3 rfl) ?_
  refine lv_icmp_ne (tgt := 28) hx hb dJString_getBytes_ABIB_5 (by decide) (fun c_4 => ?_) (fun c_4 => ?_)
  · have h := op_f c_4 h
    refine lv_aload_n hx hb dJString_getBytes_ABIB_28 rfl (lv_at hl 0 rfl) ?_
    refine vk_getf hx hb (hE.s 16 rfl).2.2.2.1 hS hown (hts _ wv_1735) (fun _ h9 => h9) dJString_getBytes_ABIB_29 ?_
    refine lv_iconst (v := 0) hx hb dJString_getBytes_ABIB_32 (by decide) ?_
    refine lv_aload_n hx hb dJString_getBytes_ABIB_33 rfl (lv_at hl 1 rfl) ?_
    refine lv_iload_n hx hb dJString_getBytes_ABIB_34 rfl (lv_at hl 2 rfl) ?_
    refine lv_aload_n hx hb dJString_getBytes_ABIB_35 rfl (lv_at hl 0 rfl) ?_
    refine vk_getf hx hb (hE.s 16 rfl).2.2.2.1 hS hown (hts _ wv_1735) (fun _ h9 => h9) dJString_getBytes_ABIB_36 ?_
    refine va_tlen (v := 5) hx hb (hE.s 16 rfl).2.2.2.2 hS rfl dJString_getBytes_ABIB_39 ?_
    cases h
  · have h := op_t c_4 h
    refine lv_aload_n hx hb dJString_getBytes_ABIB_8 rfl (lv_at hl 0 rfl) ?_
    refine vk_getf hx hb (hE.s 16 rfl).2.2.2.1 hS hown (hts _ wv_1735) (fun _ h9 => h9) dJString_getBytes_ABIB_9 ?_
    refine lv_iconst (v := 0) hx hb dJString_getBytes_ABIB_12 (by decide) ?_
    refine lv_aload_n hx hb dJString_getBytes_ABIB_13 rfl (lv_at hl 1 rfl) ?_
    refine lv_iload_n hx hb dJString_getBytes_ABIB_14 rfl (lv_at hl 2 rfl) ?_
    refine lv_iload_n hx hb dJString_getBytes_ABIB_15 rfl (lv_at hl 3 rfl) ?_
    refine lv_ishl hx hb dJString_getBytes_ABIB_16 ?_
    refine lv_topi (fun x_5 ex_5 => ?_)
    have h := op_ks ex_5 h
    refine lv_aload_n hx hb dJString_getBytes_ABIB_17 rfl (lv_at hl 0 rfl) ?_
    refine vk_getf hx hb (hE.s 16 rfl).2.2.2.1 hS hown (hts _ wv_1735) (fun _ h9 => h9) dJString_getBytes_ABIB_18 ?_
    refine va_tlen (v := 5) hx hb (hE.s 16 rfl).2.2.2.2 hS rfl dJString_getBytes_ABIB_21 ?_
    obtain ⟨hi_6, h⟩ := op_n h
    refine vk_copyt (D := D) (f := cf_sb 16) hx hb (hml.trans hl.1.symm) hown (hts _ wv_1643) (hts _ wv_1295) (hts _ wv_1294) (hts _ wv_187) hK hP hD hS (hE.s 16 rfl).2.2.2.2 1 2 rfl rfl (by decide) (fun z => hi_6 (Or.inl z)) (by decide) (by decide) (Nat.not_lt.mp (fun z => hi_6 (Or.inr z))) (by decide) (Nat.le_of_ble_eq_true rfl) (Nat.le_of_ble_eq_true rfl) dJString_getBytes_ABIB_22 (fun H locs hP hD hS => ?_)
    have hP : va_P D vwCl (wSB K h0 a0 (cb o0 0 16 x_5 5)) H := hP
    have hD : va_D A (wSB K h0 a0 (cb o0 0 16 x_5 5)) := hD
    obtain ⟨o_7, eo_7, h⟩ := op_kx h
    rw [← eo_7] at hP hD
    refine lv_goto (tgt := 43) hx hb dJString_getBytes_ABIB_25 (by decide) ?_
    obtain rfl := Option.some.inj h
    exact dc_vret hx hb hr hlocks rfl hP hD hS dJString_getBytes_ABIB_43
set_option maxRecDepth 100000 in
theorem mJString_getBytes_ABIB_S16_SB0 (l : Launch) (D : va_G) (K : Nat → ClassId) (sz : Nat) (v2 : Int32) (v3 : Int32) (h0 : Nat) (a0 : Nat → Nat) (o0 : cf_O) (r : cf_O) (h : fJString_getBytes_ABIB_S16_SB0 v2 v3 o0 = some r) : Met l yJString_getBytes_ABIB (Cond.code yJString_getBytes_ABIB cJString_getBytes_ABIB 4 (Option.none : Option Jvm.ClassFile.FieldType) :: cfB) ({ frames := 1, cells := 0, slots := 0, locals := 60 }) (va_Pc [.ref (K 116), .ref (a0 0), .int v2, .int v3] (cf_Pre D K sz (wSB K h0 a0 o0))) (va_Qv (fun (_ : Unit) => True) (fun (_ : Unit) t => cf_At D (va_A (wSB K h0 a0 o0) sz) (wSB K h0 a0 r) t) (va_A (wSB K h0 a0 o0) sz)) 0 0 (va_A (wSB K h0 a0 o0) sz) := by
  refine cf_ofW (y := yJString_getBytes_ABIB) (As := [.ref (K 116), .ref (a0 0), .int v2, .int v3]) (WS := wSB K h0 a0 o0) (maxL := 4) (fun A => (va_Qv (fun (_ : Unit) => True) (fun (_ : Unit) t => cf_At D A (wSB K h0 a0 r) t) A)) (by decide) (Nat.le_of_ble_eq_true rfl) ?_
  intro p e s m below meth c A ls En hsz hA hP hD hE hS hl
  have C : (dc_C p s m (([.ref (K 116), .ref (a0 0), .int v2, .int v3] : List Value).toArray) meth c cJString_getBytes_ABIB 4 (Option.none : Option Jvm.ClassFile.FieldType) yJString_getBytes_ABIB ∧ cf_E D K A s s.heap ∧ ∀ q, s.heap.size ≤ q → A q) := ⟨En, hE, hA⟩
  exact bJString_getBytes_ABIB_S16_SB0_0 C v2 v3 o0 r h hP hD hS hl
set_option maxRecDepth 100000 in
theorem nAS_putStringAt_S16_0 (v1 : Int32) (o0 : cf_O) (r : cf_O) (h : fAS_putStringAt_S16_0 v1 o0 = some r) : phSB o0 ≤ phSB r := by
  have hm : phSB o0 ≤ phSB o0 := Nat.le_refl _
  obtain ⟨q_1, hq_1, h⟩ := op_b h
  obtain ⟨q_3, hq_3, h⟩ := op_b h
  have hm : phSB o0 ≤ phSB q_3 := Nat.le_trans hm (nJString_getBytes_ABIB_S16_SB0 _ _ _ _ hq_3)
  obtain rfl := Option.some.inj h
  exact hm
theorem nAS_putStringAt_S16 (v1 : Int32) (o0 : cf_O) (r : cf_O) (h : fAS_putStringAt_S16 v1 o0 = some r) : phSB o0 ≤ phSB r := nAS_putStringAt_S16_0  v1 o0 r h
set_option maxHeartbeats 4000000 in
set_option maxRecDepth 100000 in
theorem bAS_putStringAt_S16_0 {p : Program} {l : Launch} {e : Env} {s : State} {m : MethodId} {below : List Frame} {meth : Method} {c : Code} {A : Nat → Prop} {D : va_G} {K : Nat → ClassId} {h0 : Nat} {a0 : Nat → Nat} {AR : Array Value} (C : (dc_C p s m AR meth c cAS_putStringAt 3 (Option.none : Option Jvm.ClassFile.FieldType) yAS_putStringAt ∧ cf_E D K A s s.heap ∧ ∀ q, s.heap.size ≤ q → A q)) (v1 : Int32) (o0 : cf_O) (r : cf_O) (h : fAS_putStringAt_S16_0 v1 o0 = some r) {H : Heap} {locs : List Loc} {ls : Array Slot} (hP : va_P D vwCl (wSB K h0 a0 o0) H) (hD : va_D A (wSB K h0 a0 o0)) (hS : va_S A s.heap H locs) (hl : lv_has ls 3 [(0, .ref h0), (1, .int v1), (2, .ref (K 116))]) : W p l e ({ frames := 2, cells := 0, slots := 0, locals := 83 }) s m AR below meth c H locs 0 0 (MQ below (va_Qv (fun (_ : Unit) => True) (fun (_ : Unit) t => cf_At D A (wSB K h0 a0 r) t) A) AR s 0 0 A) (F0 m 0 ls []) := by
  obtain ⟨⟨hx, hb, hr, hts, hown, hlocks, hin, hml⟩, hE, hA⟩ := id C
  have hK := hE.k
  refine lv_aload_n hx hb dAS_putStringAt_0 rfl (lv_at hl 0 rfl) ?_
  refine lv_aload_n hx hb dAS_putStringAt_1 rfl (lv_at hl 2 rfl) ?_
  obtain ⟨q_1, hq_1, h⟩ := op_b h
  refine dc_callv (va_runU (As := [.ref (K 116)]) (rest := []) ⟨hx, hb, hml, hown, hts⟩ (mAS_inflateIfNeededFor_S16 l D K _ h0 a0 o0 _ hq_1) (cf_cwU (C := "java/lang/StringBuilder") 1 hts (cf_G1 wv_1618) rfl rfl rfl (hts _ wv_166) (hts _ wv_1615) (hts _ wv_2793) (va_Nw.use rfl (hE.n 32 rfl)) (hts _ wv_1617) (by decide +kernel) ⟨Nat.le_of_ble_eq_true rfl, Nat.le_of_ble_eq_true rfl⟩) (dc_preV hE hP hD hS hA rfl 0 rfl) rfl rfl hl.1 rfl (lv_room (Nat.le_of_ble_eq_true rfl)) dAS_putStringAt_2 ⟨Nat.le_of_ble_eq_true rfl, Nat.le_of_ble_eq_true rfl⟩) hP hD hS hA (fun H locs hP hD hS => ?_)
  refine lv_aload_n hx hb dAS_putStringAt_5 rfl (lv_at hl 2 rfl) ?_
  refine lv_aload_n hx hb dAS_putStringAt_6 rfl (lv_at hl 0 rfl) ?_
  refine va_get (D := D) (ci := 13) (v := .ref (a0 0)) (C := RSB) (T := TSB) (N := 4) hx hb hts inSB hown hK hP 0 rfl rfl 0 (by decide) (hts _ wv_453) (fun _ h9 => h9) rfl dAS_putStringAt_7 ?_
  refine lv_iload_n hx hb dAS_putStringAt_10 rfl (lv_at hl 1 rfl) ?_
  refine lv_aload_n hx hb dAS_putStringAt_11 rfl (lv_at hl 0 rfl) ?_
  refine va_get (D := D) (ci := 13) (v := .int (o0.1 1)) (C := RSB) (T := TSB) (N := 4) hx hb hts inSB hown hK hP 0 rfl rfl 1 (by decide) (hts _ wv_454) (fun _ h9 => h9) rfl dAS_putStringAt_12 ?_
  obtain ⟨q_3, hq_3, h⟩ := op_b h
  refine cf_callv (wc := wSB K h0 a0 o0) (wr := []) (va_runV (As := [.ref (a0 0), .int v1, .int (o0.1 1)]) (rest := []) ⟨hx, hb, hml, hown, hts⟩ (mJString_getBytes_ABIB_S16_SB0 l D K _ v1 (o0.1 1) h0 a0 o0 _ hq_3) (cwV 3 hts (cf_GV wv_1639 wv_1640 wv_1641 wv_168 wv_1642) rfl rfl rfl (by decide +kernel) ⟨Nat.le_of_ble_eq_true rfl, Nat.le_of_ble_eq_true rfl⟩) (cf_preO (wc := wSB K h0 a0 o0) (hE.s 16 rfl).2.1 hE hP hD hS hA [0, 1] rfl (by decide +kernel)) rfl rfl hl.1 rfl (lv_room (Nat.le_of_ble_eq_true rfl)) dAS_putStringAt_15 ⟨Nat.le_of_ble_eq_true rfl, Nat.le_of_ble_eq_true rfl⟩) hP hD hS hA [0, 1] [] rfl rfl (by decide +kernel) (by decide +kernel) (fun _ H locs hw_4 hP hD hS => ?_)
  have hP : va_P D vwCl (wSB K h0 a0 q_3) H := hP.sub [0, 1] rfl
  have hD : va_D A (wSB K h0 a0 q_3) := hD.sub [0, 1] (by decide +kernel) rfl
  obtain rfl := Option.some.inj h
  exact dc_vret hx hb hr hlocks rfl hP hD hS dAS_putStringAt_18
set_option maxRecDepth 100000 in
theorem mAS_putStringAt_S16 (l : Launch) (D : va_G) (K : Nat → ClassId) (sz : Nat) (v1 : Int32) (h0 : Nat) (a0 : Nat → Nat) (o0 : cf_O) (r : cf_O) (h : fAS_putStringAt_S16 v1 o0 = some r) : Met l yAS_putStringAt (Cond.code yAS_putStringAt cAS_putStringAt 3 (Option.none : Option Jvm.ClassFile.FieldType) :: cfB) ({ frames := 2, cells := 0, slots := 0, locals := 83 }) (va_Pc [.ref h0, .int v1, .ref (K 116)] (cf_Pre D K sz (wSB K h0 a0 o0))) (va_Qv (fun (_ : Unit) => True) (fun (_ : Unit) t => cf_At D (va_A (wSB K h0 a0 o0) sz) (wSB K h0 a0 r) t) (va_A (wSB K h0 a0 o0) sz)) 0 0 (va_A (wSB K h0 a0 o0) sz) := by
  refine cf_ofW (y := yAS_putStringAt) (As := [.ref h0, .int v1, .ref (K 116)]) (WS := wSB K h0 a0 o0) (maxL := 3) (fun A => (va_Qv (fun (_ : Unit) => True) (fun (_ : Unit) t => cf_At D A (wSB K h0 a0 r) t) A)) (by decide) (Nat.le_of_ble_eq_true rfl) ?_
  intro p e s m below meth c A ls En hsz hA hP hD hE hS hl
  have C : (dc_C p s m (([.ref h0, .int v1, .ref (K 116)] : List Value).toArray) meth c cAS_putStringAt 3 (Option.none : Option Jvm.ClassFile.FieldType) yAS_putStringAt ∧ cf_E D K A s s.heap ∧ ∀ q, s.heap.size ≤ q → A q) := ⟨En, hE, hA⟩
  exact bAS_putStringAt_S16_0 C v1 o0 r h hP hD hS hl
set_option maxRecDepth 100000 in
theorem nAS_appendS_S16_33 (v2 : Int32) (o0 : cf_O) (r : cf_O) (h : fAS_appendS_S16_33 v2 o0 = some r) : phSB o0 ≤ phSB r := by
  have hm : phSB o0 ≤ phSB o0 := Nat.le_refl _
  obtain ⟨x_1, ex_1, h⟩ := op_kx h
  obtain ⟨o_2, eo_2, h⟩ := op_kx h
  have hm : phSB o0 ≤ phSB o_2 := by rw [eo_2]; exact hm
  obtain rfl := Option.some.inj h
  exact hm
set_option maxRecDepth 100000 in
theorem nAS_appendS_S16_24 (v2 : Int32) (o0 : cf_O) (r : cf_O) (h : fAS_appendS_S16_24 v2 o0 = some r) : phSB o0 ≤ phSB r := by
  have hm : phSB o0 ≤ phSB o0 := Nat.le_refl _
  obtain ⟨q_1, hq_1, h⟩ := op_b h
  have hm : phSB o0 ≤ phSB q_1 := Nat.le_trans hm (nAS_putStringAt_S16 _ _ _ hq_1)
  exact Nat.le_trans hm (nAS_appendS_S16_33 _ _ _ h)
set_option maxRecDepth 100000 in
theorem nAS_appendS_S16_13 (s0 : Int32) (o0 : cf_O) (r : cf_O) (h : fAS_appendS_S16_13 s0 o0 = some r) : phSB o0 ≤ phSB r := by
  have hm : phSB o0 ≤ phSB o0 := Nat.le_refl _
  obtain ⟨x_1, ex_1, h⟩ := op_kx h
  obtain ⟨q_2, hq_2, h⟩ := op_b h
  have hm : phSB o0 ≤ phSB q_2 := Nat.le_trans hm (nAS_ensureCapacityInternal _ _ _ hq_2)
  exact Nat.le_trans hm (nAS_appendS_S16_24 _ _ _ h)
set_option maxRecDepth 100000 in
theorem nAS_appendS_S16_0 (o0 : cf_O) (r : cf_O) (h : fAS_appendS_S16_0 o0 = some r) : phSB o0 ≤ phSB r := by
  have hm : phSB o0 ≤ phSB o0 := Nat.le_refl _
  obtain ⟨q_1, hq_1, h⟩ := op_b h
  exact Nat.le_trans hm (nAS_appendS_S16_13 _ _ _ h)
theorem nAS_appendS_S16 (o0 : cf_O) (r : cf_O) (h : fAS_appendS_S16 o0 = some r) : phSB o0 ≤ phSB r := nAS_appendS_S16_0  o0 r h
set_option maxHeartbeats 4000000 in
set_option maxRecDepth 100000 in
theorem bAS_appendS_S16_33 {p : Program} {l : Launch} {e : Env} {s : State} {m : MethodId} {below : List Frame} {meth : Method} {c : Code} {A : Nat → Prop} {D : va_G} {K : Nat → ClassId} {h0 : Nat} {os : cf_O} {AR : Array Value} (C : (dc_C p s m AR meth c cAS_appendS 3 (Option.some (Jvm.ClassFile.FieldType.object "java/lang/AbstractStringBuilder")) yAS_appendS ∧ cf_E D K A s s.heap ∧ ∀ q, s.heap.size ≤ q → A q)) (v2 : Int32) (o0 : cf_O) (r : cf_O) (h : fAS_appendS_S16_33 v2 o0 = some r) {a0 : Nat → Nat} {H : Heap} {locs : List Loc} {ls : Array Slot} (hg : phSB os ≤ phSB o0) (hP : va_P D vwCl (wSB K h0 a0 o0) H) (hD : va_D A (wSB K h0 a0 o0)) (hS : va_S A s.heap H locs) (hl : lv_has ls 3 [(0, .ref h0), (2, .int v2)]) : W p l e ({ frames := 4, cells := (gC (phSB os) (phSB r)), slots := (gS (phSB os) (phSB r)), locals := 124 }) s m AR below meth c H locs (gC (phSB os) (phSB o0)) (gS (phSB os) (phSB o0)) (MQ below (va_Qr (fun (_ : Nat → Nat) => True) (fun (u : Nat → Nat) q t => cf_At D A (wSB K h0 u r) t ∧ q = h0) A) AR s (gC (phSB os) (phSB r)) (gS (phSB os) (phSB r)) A) (F0 m 33 ls []) := by
  obtain ⟨⟨hx, hb, hr, hts, hown, hlocks, hin, hml⟩, hE, hA⟩ := id C
  have hK := hE.k
  refine lv_aload_n hx hb dAS_appendS_33 rfl (lv_at hl 0 rfl) ?_
  refine lv_dup hx hb dAS_appendS_34 rfl ?_
  refine va_get (D := D) (ci := 13) (v := .int (o0.1 3)) (C := RSB) (T := TSB) (N := 4) hx hb hts inSB hown hK hP 0 rfl rfl 3 (by decide) (hts _ wv_457) (fun _ h9 => h9) rfl dAS_appendS_35 ?_
  refine lv_iload_n hx hb dAS_appendS_38 rfl (lv_at hl 1 rfl) ?_
  refine lv_iadd hx hb dAS_appendS_39 ?_
  refine lv_topi (fun x_1 ex_1 => ?_)
  have h := op_ks ex_1 h
  refine va_put (D := D) (ci := 13) (v := .int x_1) (ty := .int) (C := RSB) (T := TSB) (N := 4) hx hb hts inSB tySB tyokSB nmSB hown hK hP hD hS 0 rfl rfl 3 (by decide) (hts _ wv_457) (fun _ h9 => h9) rfl (by decide +kernel) rfl rfl (Nat.le_of_ble_eq_true rfl) dAS_appendS_40 (fun H locs hP hD hS => ?_)
  have hP : va_P D vwCl (wSB K h0 a0 (fp o0 3 x_1)) H := hP
  have hD : va_D A (wSB K h0 a0 (fp o0 3 x_1)) := hD
  obtain ⟨o_2, eo_2, h⟩ := op_kx h
  rw [← eo_2] at hP hD
  have hf_3 : phSB o_2 = phSB o0 := by rw [eo_2]; rfl
  refine W.widen (k := (gC (phSB os) (phSB o_2))) (n := (gS (phSB os) (phSB o_2))) (by rw [hf_3]; exact Nat.le_refl _) (by rw [hf_3]; exact Nat.le_refl _) ?_
  have hg : phSB os ≤ phSB o_2 := by rw [hf_3]; exact hg
  refine lv_aload_n hx hb dAS_appendS_43 rfl (lv_at hl 0 rfl) ?_
  obtain rfl := Option.some.inj h
  exact dc_aretG a0 hx hb hr ⟨_, rfl⟩ hlocks hP hD hS dAS_appendS_44
set_option maxHeartbeats 4000000 in
set_option maxRecDepth 100000 in
theorem bAS_appendS_S16_24 {p : Program} {l : Launch} {e : Env} {s : State} {m : MethodId} {below : List Frame} {meth : Method} {c : Code} {A : Nat → Prop} {D : va_G} {K : Nat → ClassId} {h0 : Nat} {os : cf_O} {AR : Array Value} (C : (dc_C p s m AR meth c cAS_appendS 3 (Option.some (Jvm.ClassFile.FieldType.object "java/lang/AbstractStringBuilder")) yAS_appendS ∧ cf_E D K A s s.heap ∧ ∀ q, s.heap.size ≤ q → A q)) (v2 : Int32) (o0 : cf_O) (r : cf_O) (h : fAS_appendS_S16_24 v2 o0 = some r) {a0 : Nat → Nat} {H : Heap} {locs : List Loc} {ls : Array Slot} (hg : phSB os ≤ phSB o0) (hP : va_P D vwCl (wSB K h0 a0 o0) H) (hD : va_D A (wSB K h0 a0 o0)) (hS : va_S A s.heap H locs) (hl : lv_has ls 3 [(0, .ref h0), (1, .ref (K 116)), (2, .int v2)]) : W p l e ({ frames := 4, cells := (gC (phSB os) (phSB r)), slots := (gS (phSB os) (phSB r)), locals := 124 }) s m AR below meth c H locs (gC (phSB os) (phSB o0)) (gS (phSB os) (phSB o0)) (MQ below (va_Qr (fun (_ : Nat → Nat) => True) (fun (u : Nat → Nat) q t => cf_At D A (wSB K h0 u r) t ∧ q = h0) A) AR s (gC (phSB os) (phSB r)) (gS (phSB os) (phSB r)) A) (F0 m 24 ls []) := by
  obtain ⟨⟨hx, hb, hr, hts, hown, hlocks, hin, hml⟩, hE, hA⟩ := id C
  have hK := hE.k
  refine lv_aload_n hx hb dAS_appendS_24 rfl (lv_at hl 0 rfl) ?_
  refine lv_aload_n hx hb dAS_appendS_25 rfl (lv_at hl 0 rfl) ?_
  refine va_get (D := D) (ci := 13) (v := .int (o0.1 3)) (C := RSB) (T := TSB) (N := 4) hx hb hts inSB hown hK hP 0 rfl rfl 3 (by decide) (hts _ wv_457) (fun _ h9 => h9) rfl dAS_appendS_26 ?_
  refine lv_aload_n hx hb dAS_appendS_29 rfl (lv_at hl 1 rfl) ?_
  obtain ⟨q_1, hq_1, h⟩ := op_b h
  have hgr_2 : phSB q_1 ≤ phSB r := nAS_appendS_S16_33 _ _ _ h
  have hg2_3 : phSB o0 ≤ phSB q_1 := nAS_putStringAt_S16 _ _ _ hq_1
  refine dc_callv (va_runU (As := [.int (o0.1 3), .ref (K 116)]) (rest := []) ⟨hx, hb, hml, hown, hts⟩ (mAS_putStringAt_S16 l D K _ (o0.1 3) h0 a0 o0 _ hq_1) (cf_cwU (C := "java/lang/StringBuilder") 2 hts (cf_G1 wv_1614) rfl rfl rfl (hts _ wv_166) (hts _ wv_1611) (hts _ wv_2792) (va_Nw.use rfl (hE.n 31 rfl)) (hts _ wv_1613) (by decide +kernel) ⟨Nat.le_of_ble_eq_true rfl, Nat.le_of_ble_eq_true rfl⟩) (dc_preV hE hP hD hS hA rfl 0 rfl) rfl rfl hl.1 rfl (lv_room (Nat.le_of_ble_eq_true rfl)) dAS_appendS_30 ⟨gC_le (Nat.le_trans hg2_3 hgr_2), gS_le (Nat.le_trans hg2_3 hgr_2)⟩) hP hD hS hA (fun H locs hP hD hS => ?_)
  refine W.widen (k := (gC (phSB os) (phSB q_1))) (n := (gS (phSB os) (phSB q_1))) (gC_le hg2_3) (gS_le hg2_3) ?_
  have hg : phSB os ≤ phSB q_1 := Nat.le_trans hg hg2_3
  exact bAS_appendS_S16_33 C _ _ _ h hg hP hD hS (lv_sub hl [0, 2] rfl)
set_option maxHeartbeats 4000000 in
set_option maxRecDepth 100000 in
theorem bAS_appendS_S16_13 {p : Program} {l : Launch} {e : Env} {s : State} {m : MethodId} {below : List Frame} {meth : Method} {c : Code} {A : Nat → Prop} {D : va_G} {K : Nat → ClassId} {h0 : Nat} {os : cf_O} {AR : Array Value} (C : (dc_C p s m AR meth c cAS_appendS 3 (Option.some (Jvm.ClassFile.FieldType.object "java/lang/AbstractStringBuilder")) yAS_appendS ∧ cf_E D K A s s.heap ∧ ∀ q, s.heap.size ≤ q → A q)) (s0 : Int32) (o0 : cf_O) (r : cf_O) (h : fAS_appendS_S16_13 s0 o0 = some r) {a0 : Nat → Nat} {H : Heap} {locs : List Loc} {ls : Array Slot} (hg : phSB os ≤ phSB o0) (hP : va_P D vwCl (wSB K h0 a0 o0) H) (hD : va_D A (wSB K h0 a0 o0)) (hS : va_S A s.heap H locs) (hl : lv_has ls 3 [(0, .ref h0), (1, .ref (K 116))]) : W p l e ({ frames := 4, cells := (gC (phSB os) (phSB r)), slots := (gS (phSB os) (phSB r)), locals := 124 }) s m AR below meth c H locs (gC (phSB os) (phSB o0)) (gS (phSB os) (phSB o0)) (MQ below (va_Qr (fun (_ : Nat → Nat) => True) (fun (u : Nat → Nat) q t => cf_At D A (wSB K h0 u r) t ∧ q = h0) A) AR s (gC (phSB os) (phSB r)) (gS (phSB os) (phSB r)) A) (F0 m 13 ls [.int s0]) := by
  obtain ⟨⟨hx, hb, hr, hts, hown, hlocks, hin, hml⟩, hE, hA⟩ := id C
  have hK := hE.k
  refine lv_istore_n (lv' := [(2, .int s0), (0, .ref h0), (1, .ref (K 116))]) hx hb dAS_appendS_13 rfl hl (by decide) rfl (fun ls hl => ?_)
  refine lv_aload_n hx hb dAS_appendS_14 rfl (lv_at hl 1 rfl) ?_
  refine lv_aload_n hx hb dAS_appendS_15 rfl (lv_at hl 1 rfl) ?_
  refine va_get (D := D) (ci := 13) (v := .int (o0.1 3)) (C := RSB) (T := TSB) (N := 4) hx hb hts inSB hown hK hP 0 rfl rfl 3 (by decide) (hts _ wv_457) (fun _ h9 => h9) rfl dAS_appendS_16 ?_
  refine lv_iload_n hx hb dAS_appendS_19 rfl (lv_at hl 0 rfl) ?_
  refine lv_iadd hx hb dAS_appendS_20 ?_
  refine lv_topi (fun x_1 ex_1 => ?_)
  have h := op_ks ex_1 h
  obtain ⟨q_2, hq_2, h⟩ := op_b h
  have hgr_3 : phSB q_2 ≤ phSB r := nAS_appendS_S16_24 _ _ _ h
  have hg2_4 : phSB o0 ≤ phSB q_2 := nAS_ensureCapacityInternal _ _ _ hq_2
  refine cf_callv (wc := wSB K h0 a0 o0) (wr := []) (va_runU (As := [.int x_1]) (rest := []) ⟨hx, hb, hml, hown, hts⟩ (mAS_ensureCapacityInternal l D K _ x_1 h0 a0 o0 _ hq_2) (cf_cwU (C := "java/lang/StringBuilder") 1 hts (cf_G1 wv_1568) rfl rfl rfl (hts _ wv_166) (hts _ wv_1565) (hts _ wv_2790) (va_Nw.use rfl (hE.n 29 rfl)) (hts _ wv_1567) (by decide +kernel) ⟨Nat.le_of_ble_eq_true rfl, Nat.le_of_ble_eq_true rfl⟩) (cf_preV (wc := wSB K h0 a0 o0) hE hP hD hS hA rfl 0 rfl [0, 1] rfl (by decide +kernel)) rfl rfl hl.1 rfl (lv_room (Nat.le_of_ble_eq_true rfl)) dAS_appendS_21 ⟨Nat.le_trans (gC_add hg hg2_4) (gC_le hgr_3), Nat.le_trans (gS_add hg hg2_4) (gS_le hgr_3)⟩) hP hD hS hA [0, 1] [] rfl rfl (by decide +kernel) (by decide +kernel) (fun a0_6 H locs hw_5 hP hD hS => ?_)
  have hP : va_P D vwCl (wSB K h0 a0_6 q_2) H := hP.sub [0, 1] rfl
  have hD : va_D A (wSB K h0 a0_6 q_2) := hD.sub [0, 1] (by decide +kernel) rfl
  refine W.widen (k := (gC (phSB os) (phSB q_2))) (n := (gS (phSB os) (phSB q_2))) (gC_add hg hg2_4) (gS_add hg hg2_4) ?_
  have hg : phSB os ≤ phSB q_2 := Nat.le_trans hg hg2_4
  exact bAS_appendS_S16_24 C _ _ _ h hg hP hD hS (lv_sub hl [1, 2, 0] rfl)
set_option maxHeartbeats 4000000 in
set_option maxRecDepth 100000 in
theorem bAS_appendS_S16_0 {p : Program} {l : Launch} {e : Env} {s : State} {m : MethodId} {below : List Frame} {meth : Method} {c : Code} {A : Nat → Prop} {D : va_G} {K : Nat → ClassId} {h0 : Nat} {os : cf_O} {AR : Array Value} (C : (dc_C p s m AR meth c cAS_appendS 3 (Option.some (Jvm.ClassFile.FieldType.object "java/lang/AbstractStringBuilder")) yAS_appendS ∧ cf_E D K A s s.heap ∧ ∀ q, s.heap.size ≤ q → A q)) (o0 : cf_O) (r : cf_O) (h : fAS_appendS_S16_0 o0 = some r) {a0 : Nat → Nat} {H : Heap} {locs : List Loc} {ls : Array Slot} (hg : phSB os ≤ phSB o0) (hP : va_P D vwCl (wSB K h0 a0 o0) H) (hD : va_D A (wSB K h0 a0 o0)) (hS : va_S A s.heap H locs) (hl : lv_has ls 3 [(0, .ref h0), (1, .ref (K 116))]) : W p l e ({ frames := 4, cells := (gC (phSB os) (phSB r)), slots := (gS (phSB os) (phSB r)), locals := 124 }) s m AR below meth c H locs (gC (phSB os) (phSB o0)) (gS (phSB os) (phSB o0)) (MQ below (va_Qr (fun (_ : Nat → Nat) => True) (fun (u : Nat → Nat) q t => cf_At D A (wSB K h0 u r) t ∧ q = h0) A) AR s (gC (phSB os) (phSB r)) (gS (phSB os) (phSB r)) A) (F0 m 0 ls []) := by
  obtain ⟨⟨hx, hb, hr, hts, hown, hlocks, hin, hml⟩, hE, hA⟩ := id C
  have hK := hE.k
  refine lv_aload_n hx hb dAS_appendS_0 rfl (lv_at hl 1 rfl) ?_
  refine lv_ifnonnull (tgt := 9) hx hb dAS_appendS_1 (by decide) ?_
  refine lv_aload_n hx hb dAS_appendS_9 rfl (lv_at hl 1 rfl) ?_
  obtain ⟨q_1, hq_1, h⟩ := op_b h
  have hgr_2 : phSB o0 ≤ phSB r := nAS_appendS_S16_13 _ _ _ h
  refine cf_calli (wc := []) (wr := wSB K h0 a0 o0) (va_runV (As := []) (rest := []) ⟨hx, hb, hml, hown, hts⟩ (mJString_length__S16 l D K _ _ hq_1) (cwV 0 hts (cf_GV wv_1610 wv_757 wv_758 wv_168 wv_759) rfl rfl rfl (by decide +kernel) ⟨Nat.le_of_ble_eq_true rfl, Nat.le_of_ble_eq_true rfl⟩) (cf_preO (wc := []) (hE.s 16 rfl).2.1 hE hP hD hS hA [] rfl (by decide +kernel)) rfl rfl hl.1 rfl (lv_room (Nat.le_of_ble_eq_true rfl)) dAS_appendS_10 ⟨gC_le hgr_2, gS_le hgr_2⟩) hP hD hS hA [] [0, 1] rfl rfl (by decide +kernel) (by decide +kernel) (fun r_4 _ H locs hw_5 hP hD hS => ?_)
  subst r_4
  have hP : va_P D vwCl (wSB K h0 a0 o0) H := hP.sub [0, 1] rfl
  have hD : va_D A (wSB K h0 a0 o0) := hD.sub [0, 1] (by decide +kernel) rfl
  refine W.widen (k := (gC (phSB os) (phSB o0))) (n := (gS (phSB os) (phSB o0))) (Nat.le_refl _) (Nat.le_refl _) ?_
  exact bAS_appendS_S16_13 C _ _ _ h hg hP hD hS (lv_sub hl [0, 1] rfl)
set_option maxRecDepth 100000 in
theorem mAS_appendS_S16 (l : Launch) (D : va_G) (K : Nat → ClassId) (sz : Nat) (h0 : Nat) (a0 : Nat → Nat) (o0 : cf_O) (r : cf_O) (h : fAS_appendS_S16 o0 = some r) : Met l yAS_appendS (Cond.code yAS_appendS cAS_appendS 3 (Option.some (Jvm.ClassFile.FieldType.object "java/lang/AbstractStringBuilder")) :: cfB) ({ frames := 4, cells := (gC (phSB o0) (phSB r)), slots := (gS (phSB o0) (phSB r)), locals := 124 }) (va_Pc [.ref h0, .ref (K 116)] (cf_Pre D K sz (wSB K h0 a0 o0))) (va_Qr (fun (_ : Nat → Nat) => True) (fun (u : Nat → Nat) q t => cf_At D (va_A (wSB K h0 a0 o0) sz) (wSB K h0 u r) t ∧ q = h0) (va_A (wSB K h0 a0 o0) sz)) (gC (phSB o0) (phSB r)) (gS (phSB o0) (phSB r)) (va_A (wSB K h0 a0 o0) sz) := by
  refine cf_ofW (y := yAS_appendS) (As := [.ref h0, .ref (K 116)]) (WS := wSB K h0 a0 o0) (maxL := 3) (fun A => (va_Qr (fun (_ : Nat → Nat) => True) (fun (u : Nat → Nat) q t => cf_At D A (wSB K h0 u r) t ∧ q = h0) A)) (by decide) (Nat.le_of_ble_eq_true rfl) ?_
  intro p e s m below meth c A ls En hsz hA hP hD hE hS hl
  have C : (dc_C p s m (([.ref h0, .ref (K 116)] : List Value).toArray) meth c cAS_appendS 3 (Option.some (Jvm.ClassFile.FieldType.object "java/lang/AbstractStringBuilder")) yAS_appendS ∧ cf_E D K A s s.heap ∧ ∀ q, s.heap.size ≤ q → A q) := ⟨En, hE, hA⟩
  refine W.widen (k := gC (phSB o0) (phSB o0)) (n := gS (phSB o0) (phSB o0)) (Nat.zero_le _) (Nat.zero_le _) ?_
  exact bAS_appendS_S16_0 C o0 r h (Nat.le_refl _) hP hD hS hl
set_option maxRecDepth 100000 in
theorem nSB_appendS_S16_5 (o0 : cf_O) (r : cf_O) (h : fSB_appendS_S16_5 o0 = some r) : phSB o0 ≤ phSB r := by
  have hm : phSB o0 ≤ phSB o0 := Nat.le_refl _
  obtain rfl := Option.some.inj h
  exact hm
set_option maxRecDepth 100000 in
theorem nSB_appendS_S16_0 (o0 : cf_O) (r : cf_O) (h : fSB_appendS_S16_0 o0 = some r) : phSB o0 ≤ phSB r := by
  have hm : phSB o0 ≤ phSB o0 := Nat.le_refl _
  obtain ⟨q_1, hq_1, h⟩ := op_b h
  have hm : phSB o0 ≤ phSB q_1 := Nat.le_trans hm (nAS_appendS_S16 _ _ hq_1)
  exact Nat.le_trans hm (nSB_appendS_S16_5 _ _ h)
theorem nSB_appendS_S16 (o0 : cf_O) (r : cf_O) (h : fSB_appendS_S16 o0 = some r) : phSB o0 ≤ phSB r := nSB_appendS_S16_0  o0 r h
set_option maxHeartbeats 4000000 in
set_option maxRecDepth 100000 in
theorem bSB_appendS_S16_5 {p : Program} {l : Launch} {e : Env} {s : State} {m : MethodId} {below : List Frame} {meth : Method} {c : Code} {A : Nat → Prop} {D : va_G} {K : Nat → ClassId} {h0 : Nat} {os : cf_O} {AR : Array Value} (C : (dc_C p s m AR meth c cSB_appendS 2 (Option.some (Jvm.ClassFile.FieldType.object "java/lang/StringBuilder")) ySB_appendS ∧ cf_E D K A s s.heap ∧ ∀ q, s.heap.size ≤ q → A q)) (o0 : cf_O) (r : cf_O) (h : fSB_appendS_S16_5 o0 = some r) {a0 : Nat → Nat} {H : Heap} {locs : List Loc} {ls : Array Slot} (hg : phSB os ≤ phSB o0) (hP : va_P D vwCl (wSB K h0 a0 o0) H) (hD : va_D A (wSB K h0 a0 o0)) (hS : va_S A s.heap H locs) (hl : lv_has ls 2 [(0, .ref h0)]) : W p l e ({ frames := 5, cells := (gC (phSB os) (phSB r)), slots := (gS (phSB os) (phSB r)), locals := 146 }) s m AR below meth c H locs (gC (phSB os) (phSB o0)) (gS (phSB os) (phSB o0)) (MQ below (va_Qr (fun (_ : Nat → Nat) => True) (fun (u : Nat → Nat) q t => cf_At D A (wSB K h0 u r) t ∧ q = h0) A) AR s (gC (phSB os) (phSB r)) (gS (phSB os) (phSB r)) A) (F0 m 5 ls [.ref h0]) := by
  obtain ⟨⟨hx, hb, hr, hts, hown, hlocks, hin, hml⟩, hE, hA⟩ := id C
  have hK := hE.k
  refine lv_pop hx hb dSB_appendS_5 rfl ?_
  refine lv_aload_n hx hb dSB_appendS_6 rfl (lv_at hl 0 rfl) ?_
  obtain rfl := Option.some.inj h
  exact dc_aretG a0 hx hb hr ⟨_, rfl⟩ hlocks hP hD hS dSB_appendS_7
set_option maxHeartbeats 4000000 in
set_option maxRecDepth 100000 in
theorem bSB_appendS_S16_0 {p : Program} {l : Launch} {e : Env} {s : State} {m : MethodId} {below : List Frame} {meth : Method} {c : Code} {A : Nat → Prop} {D : va_G} {K : Nat → ClassId} {h0 : Nat} {os : cf_O} {AR : Array Value} (C : (dc_C p s m AR meth c cSB_appendS 2 (Option.some (Jvm.ClassFile.FieldType.object "java/lang/StringBuilder")) ySB_appendS ∧ cf_E D K A s s.heap ∧ ∀ q, s.heap.size ≤ q → A q)) (o0 : cf_O) (r : cf_O) (h : fSB_appendS_S16_0 o0 = some r) {a0 : Nat → Nat} {H : Heap} {locs : List Loc} {ls : Array Slot} (hg : phSB os ≤ phSB o0) (hP : va_P D vwCl (wSB K h0 a0 o0) H) (hD : va_D A (wSB K h0 a0 o0)) (hS : va_S A s.heap H locs) (hl : lv_has ls 2 [(0, .ref h0), (1, .ref (K 116))]) : W p l e ({ frames := 5, cells := (gC (phSB os) (phSB r)), slots := (gS (phSB os) (phSB r)), locals := 146 }) s m AR below meth c H locs (gC (phSB os) (phSB o0)) (gS (phSB os) (phSB o0)) (MQ below (va_Qr (fun (_ : Nat → Nat) => True) (fun (u : Nat → Nat) q t => cf_At D A (wSB K h0 u r) t ∧ q = h0) A) AR s (gC (phSB os) (phSB r)) (gS (phSB os) (phSB r)) A) (F0 m 0 ls []) := by
  obtain ⟨⟨hx, hb, hr, hts, hown, hlocks, hin, hml⟩, hE, hA⟩ := id C
  have hK := hE.k
  refine lv_aload_n hx hb dSB_appendS_0 rfl (lv_at hl 0 rfl) ?_
  refine lv_aload_n hx hb dSB_appendS_1 rfl (lv_at hl 1 rfl) ?_
  obtain ⟨q_1, hq_1, h⟩ := op_b h
  have hgr_2 : phSB q_1 ≤ phSB r := nSB_appendS_S16_5 _ _ h
  have hg2_3 : phSB o0 ≤ phSB q_1 := nAS_appendS_S16 _ _ hq_1
  refine cf_callR (wc := wSB K h0 a0 o0) (wr := []) (va_runSU (hK.1 13 _ rfl).2 (As := [.ref (K 116)]) (rest := []) ⟨hx, hb, hml, hown, hts⟩ (mAS_appendS_S16 l D K _ h0 a0 o0 _ hq_1) (cf_cwSU 1 hts (cf_G1 wv_1560) rfl rfl rfl (hts _ wv_1558) (hts _ wv_2788) (hts _ wv_466) (hts _ wv_1559) (hts _ wv_166) (by decide +kernel) ⟨Nat.le_of_ble_eq_true rfl, Nat.le_of_ble_eq_true rfl⟩) (cf_preV (wc := wSB K h0 a0 o0) hE hP hD hS hA rfl 0 rfl [0, 1] rfl (by decide +kernel)) rfl rfl hl.1 rfl (lv_room (Nat.le_of_ble_eq_true rfl)) dSB_appendS_2 ⟨Nat.le_trans (gC_add hg hg2_3) (gC_le hgr_2), Nat.le_trans (gS_add hg hg2_3) (gS_le hgr_2)⟩) hP hD hS hA [0, 1] [] rfl rfl (by decide +kernel) (by decide +kernel) (fun a0_5 H locs hw_4 hP hD hS => ?_)
  have hP : va_P D vwCl (wSB K h0 a0_5 q_1) H := hP.sub [0, 1] rfl
  have hD : va_D A (wSB K h0 a0_5 q_1) := hD.sub [0, 1] (by decide +kernel) rfl
  refine W.widen (k := (gC (phSB os) (phSB q_1))) (n := (gS (phSB os) (phSB q_1))) (gC_add hg hg2_3) (gS_add hg hg2_3) ?_
  have hg : phSB os ≤ phSB q_1 := Nat.le_trans hg hg2_3
  exact bSB_appendS_S16_5 C _ _ h hg hP hD hS (lv_sub hl [0] rfl)
set_option maxRecDepth 100000 in
theorem mSB_appendS_S16 (l : Launch) (D : va_G) (K : Nat → ClassId) (sz : Nat) (h0 : Nat) (a0 : Nat → Nat) (o0 : cf_O) (r : cf_O) (h : fSB_appendS_S16 o0 = some r) : Met l ySB_appendS (Cond.code ySB_appendS cSB_appendS 2 (Option.some (Jvm.ClassFile.FieldType.object "java/lang/StringBuilder")) :: cfB) ({ frames := 5, cells := (gC (phSB o0) (phSB r)), slots := (gS (phSB o0) (phSB r)), locals := 146 }) (va_Pc [.ref h0, .ref (K 116)] (cf_Pre D K sz (wSB K h0 a0 o0))) (va_Qr (fun (_ : Nat → Nat) => True) (fun (u : Nat → Nat) q t => cf_At D (va_A (wSB K h0 a0 o0) sz) (wSB K h0 u r) t ∧ q = h0) (va_A (wSB K h0 a0 o0) sz)) (gC (phSB o0) (phSB r)) (gS (phSB o0) (phSB r)) (va_A (wSB K h0 a0 o0) sz) := by
  refine cf_ofW (y := ySB_appendS) (As := [.ref h0, .ref (K 116)]) (WS := wSB K h0 a0 o0) (maxL := 2) (fun A => (va_Qr (fun (_ : Nat → Nat) => True) (fun (u : Nat → Nat) q t => cf_At D A (wSB K h0 u r) t ∧ q = h0) A)) (by decide) (Nat.le_of_ble_eq_true rfl) ?_
  intro p e s m below meth c A ls En hsz hA hP hD hE hS hl
  have C : (dc_C p s m (([.ref h0, .ref (K 116)] : List Value).toArray) meth c cSB_appendS 2 (Option.some (Jvm.ClassFile.FieldType.object "java/lang/StringBuilder")) ySB_appendS ∧ cf_E D K A s s.heap ∧ ∀ q, s.heap.size ≤ q → A q) := ⟨En, hE, hA⟩
  refine W.widen (k := gC (phSB o0) (phSB o0)) (n := gS (phSB o0) (phSB o0)) (Nat.zero_le _) (Nat.zero_le _) ?_
  exact bSB_appendS_S16_0 C o0 r h (Nat.le_refl _) hP hD hS hl
set_option maxRecDepth 100000 in
theorem nSc_close_9 (o0 : cf_O) (o1 : cf_O) (r : cf_O × cf_O) (h : fSc_close_9 o0 o1 = some r) : phSB o1 ≤ phSB r.2 := by
  have hm : phSB o1 ≤ phSB o1 := Nat.le_refl _
  obtain ⟨o_1, eo_1, h⟩ := op_kx h
  obtain rfl := Option.some.inj h
  exact hm
set_option maxRecDepth 100000 in
theorem nSc_close_0 (o0 : cf_O) (o1 : cf_O) (r : cf_O × cf_O) (h : fSc_close_0 o0 o1 = some r) : phSB o1 ≤ phSB r.2 := by
  have hm : phSB o1 ≤ phSB o1 := Nat.le_refl _
  obtain ⟨q_1, hq_1, h⟩ := op_b h
  have hm : phSB o1 ≤ phSB q_1 := Nat.le_trans hm (nSB_appendS_S16 _ _ hq_1)
  exact Nat.le_trans hm (nSc_close_9 _ _ _ h)
theorem nSc_close (o0 : cf_O) (o1 : cf_O) (r : cf_O × cf_O) (h : fSc_close o0 o1 = some r) : phSB o1 ≤ phSB r.2 := nSc_close_0  o0 o1 r h
set_option maxHeartbeats 4000000 in
set_option maxRecDepth 100000 in
theorem bSc_close_9 {p : Program} {l : Launch} {e : Env} {s : State} {m : MethodId} {below : List Frame} {meth : Method} {c : Code} {A : Nat → Prop} {D : va_G} {K : Nat → ClassId} {h0 : Nat} {h1 : Nat} {os : cf_O} {AR : Array Value} (C : (dc_C p s m AR meth c cSc_close 1 (Option.none : Option Jvm.ClassFile.FieldType) ySc_close ∧ cf_E D K A s s.heap ∧ ∀ q, s.heap.size ≤ q → A q)) (o0 : cf_O) (o1 : cf_O) (r : cf_O × cf_O) (h : fSc_close_9 o0 o1 = some r) {a1 : Nat → Nat} {H : Heap} {locs : List Loc} {ls : Array Slot} (hg : phSB os ≤ phSB o1) (hP : va_P D vwCl (wSc K h0 (fun _ => h1) o0 ++ wSB K h1 a1 o1) H) (hD : va_D A (wSc K h0 (fun _ => h1) o0 ++ wSB K h1 a1 o1)) (hS : va_S A s.heap H locs) (hl : lv_has ls 1 [(0, .ref h0)]) : W p l e ({ frames := 6, cells := (gC (phSB os) (phSB r.2)), slots := (gS (phSB os) (phSB r.2)), locals := 167 }) s m AR below meth c H locs (gC (phSB os) (phSB o1)) (gS (phSB os) (phSB o1)) (MQ below (va_Qv (fun (_ : Nat → Nat) => True) (fun (u : Nat → Nat) t => cf_At D A (wSc K h0 (fun _ => h1) r.1 ++ wSB K h1 u r.2) t) A) AR s (gC (phSB os) (phSB r.2)) (gS (phSB os) (phSB r.2)) A) (F0 m 9 ls [.ref h1]) := by
  obtain ⟨⟨hx, hb, hr, hts, hown, hlocks, hin, hml⟩, hE, hA⟩ := id C
  have hK := hE.k
  refine lv_pop hx hb dSc_close_9 rfl ?_
  refine lv_aload_n hx hb dSc_close_10 rfl (lv_at hl 0 rfl) ?_
  refine lv_iconst (v := 1) hx hb dSc_close_11 (by decide) ?_
  refine va_put (D := D) (ci := 10) (v := .int 1) (ty := .boolean) (C := RSc) (T := TSc) (N := 2) hx hb hts inSc tySc tyokSc nmSc hown hK hP hD hS 0 rfl rfl 0 (by decide) (hts _ wv_467) (fun _ h9 => h9) rfl (by decide +kernel) rfl rfl (Nat.le_of_ble_eq_true rfl) dSc_close_12 (fun H locs hP hD hS => ?_)
  have hP : va_P D vwCl (wSc K h0 (fun _ => h1) (fp o0 0 1) ++ wSB K h1 a1 o1) H := hP
  have hD : va_D A (wSc K h0 (fun _ => h1) (fp o0 0 1) ++ wSB K h1 a1 o1) := hD
  obtain ⟨o_1, eo_1, h⟩ := op_kx h
  rw [← eo_1] at hP hD
  obtain rfl := Option.some.inj h
  exact dc_vretG a1 hx hb hr hlocks hP hD hS dSc_close_15
set_option maxHeartbeats 4000000 in
set_option maxRecDepth 100000 in
theorem bSc_close_0 {p : Program} {l : Launch} {e : Env} {s : State} {m : MethodId} {below : List Frame} {meth : Method} {c : Code} {A : Nat → Prop} {D : va_G} {K : Nat → ClassId} {h0 : Nat} {h1 : Nat} {os : cf_O} {AR : Array Value} (C : (dc_C p s m AR meth c cSc_close 1 (Option.none : Option Jvm.ClassFile.FieldType) ySc_close ∧ cf_E D K A s s.heap ∧ ∀ q, s.heap.size ≤ q → A q)) (o0 : cf_O) (o1 : cf_O) (r : cf_O × cf_O) (h : fSc_close_0 o0 o1 = some r) {a1 : Nat → Nat} {H : Heap} {locs : List Loc} {ls : Array Slot} (hg : phSB os ≤ phSB o1) (hP : va_P D vwCl (wSc K h0 (fun _ => h1) o0 ++ wSB K h1 a1 o1) H) (hD : va_D A (wSc K h0 (fun _ => h1) o0 ++ wSB K h1 a1 o1)) (hS : va_S A s.heap H locs) (hl : lv_has ls 1 [(0, .ref h0)]) : W p l e ({ frames := 6, cells := (gC (phSB os) (phSB r.2)), slots := (gS (phSB os) (phSB r.2)), locals := 167 }) s m AR below meth c H locs (gC (phSB os) (phSB o1)) (gS (phSB os) (phSB o1)) (MQ below (va_Qv (fun (_ : Nat → Nat) => True) (fun (u : Nat → Nat) t => cf_At D A (wSc K h0 (fun _ => h1) r.1 ++ wSB K h1 u r.2) t) A) AR s (gC (phSB os) (phSB r.2)) (gS (phSB os) (phSB r.2)) A) (F0 m 0 ls []) := by
  obtain ⟨⟨hx, hb, hr, hts, hown, hlocks, hin, hml⟩, hE, hA⟩ := id C
  have hK := hE.k
  refine lv_aload_n hx hb dSc_close_0 rfl (lv_at hl 0 rfl) ?_
  refine va_get (D := D) (ci := 10) (v := .ref h1) (C := RSc) (T := TSc) (N := 2) hx hb hts inSc hown hK hP 0 rfl rfl 1 (by decide) (hts _ wv_469) (fun _ h9 => h9) rfl dSc_close_1 ?_
  refine va_ldcS hx hb hown (hE.s 16 rfl).1 dSc_close_4 ?_
  obtain ⟨q_1, hq_1, h⟩ := op_b h
  have hgr_2 : phSB q_1 ≤ phSB r.2 := nSc_close_9 _ _ _ h
  have hg2_3 : phSB o1 ≤ phSB q_1 := nSB_appendS_S16 _ _ hq_1
  refine cf_callR (wc := wSB K h1 a1 o1) (wr := wSc K h0 (fun _ => h1) o0) (va_runV (As := [.ref (K 116)]) (rest := []) ⟨hx, hb, hml, hown, hts⟩ (mSB_appendS_S16 l D K _ h1 a1 o1 _ hq_1) (cwV 1 hts (cf_GV wv_1793 wv_1555 wv_1556 wv_167 wv_1557) rfl rfl rfl (by decide +kernel) ⟨Nat.le_of_ble_eq_true rfl, Nat.le_of_ble_eq_true rfl⟩) (cf_preV (wc := wSB K h1 a1 o1) hE hP hD hS hA rfl 1 rfl [1, 2] rfl (by decide +kernel)) rfl rfl hl.1 rfl (lv_room (Nat.le_of_ble_eq_true rfl)) dSc_close_6 ⟨Nat.le_trans (gC_add hg hg2_3) (gC_le hgr_2), Nat.le_trans (gS_add hg hg2_3) (gS_le hgr_2)⟩) hP hD hS hA [1, 2] [0] rfl rfl (by decide +kernel) (by decide +kernel) (fun a1_5 H locs hw_4 hP hD hS => ?_)
  have hP : va_P D vwCl (wSc K h0 (fun _ => h1) o0 ++ wSB K h1 a1_5 q_1) H := hP.sub [0, 1, 2] rfl
  have hD : va_D A (wSc K h0 (fun _ => h1) o0 ++ wSB K h1 a1_5 q_1) := hD.sub [0, 1, 2] (by decide +kernel) rfl
  refine W.widen (k := (gC (phSB os) (phSB q_1))) (n := (gS (phSB os) (phSB q_1))) (gC_add hg hg2_3) (gS_add hg hg2_3) ?_
  have hg : phSB os ≤ phSB q_1 := Nat.le_trans hg hg2_3
  exact bSc_close_9 C _ _ _ h hg hP hD hS (lv_sub hl [0] rfl)
set_option maxRecDepth 100000 in
theorem mSc_close (l : Launch) (D : va_G) (K : Nat → ClassId) (sz : Nat) (h0 : Nat) (h1 : Nat) (a1 : Nat → Nat) (o0 : cf_O) (o1 : cf_O) (r : cf_O × cf_O) (h : fSc_close o0 o1 = some r) : Met l ySc_close (Cond.code ySc_close cSc_close 1 (Option.none : Option Jvm.ClassFile.FieldType) :: cfB) ({ frames := 6, cells := (gC (phSB o1) (phSB r.2)), slots := (gS (phSB o1) (phSB r.2)), locals := 167 }) (va_Pc [.ref h0] (cf_Pre D K sz (wSc K h0 (fun _ => h1) o0 ++ wSB K h1 a1 o1))) (va_Qv (fun (_ : Nat → Nat) => True) (fun (u : Nat → Nat) t => cf_At D (va_A (wSc K h0 (fun _ => h1) o0 ++ wSB K h1 a1 o1) sz) (wSc K h0 (fun _ => h1) r.1 ++ wSB K h1 u r.2) t) (va_A (wSc K h0 (fun _ => h1) o0 ++ wSB K h1 a1 o1) sz)) (gC (phSB o1) (phSB r.2)) (gS (phSB o1) (phSB r.2)) (va_A (wSc K h0 (fun _ => h1) o0 ++ wSB K h1 a1 o1) sz) := by
  refine cf_ofW (y := ySc_close) (As := [.ref h0]) (WS := wSc K h0 (fun _ => h1) o0 ++ wSB K h1 a1 o1) (maxL := 1) (fun A => (va_Qv (fun (_ : Nat → Nat) => True) (fun (u : Nat → Nat) t => cf_At D A (wSc K h0 (fun _ => h1) r.1 ++ wSB K h1 u r.2) t) A)) (by decide) (Nat.le_of_ble_eq_true rfl) ?_
  intro p e s m below meth c A ls En hsz hA hP hD hE hS hl
  have C : (dc_C p s m (([.ref h0] : List Value).toArray) meth c cSc_close 1 (Option.none : Option Jvm.ClassFile.FieldType) ySc_close ∧ cf_E D K A s s.heap ∧ ∀ q, s.heap.size ≤ q → A q) := ⟨En, hE, hA⟩
  refine W.widen (k := gC (phSB o1) (phSB o1)) (n := gS (phSB o1) (phSB o1)) (Nat.zero_le _) (Nat.zero_le _) ?_
  exact bSc_close_0 C o0 o1 r h (Nat.le_refl _) hP hD hS hl
def NICv_writeTo (n : Nat) : Prop := (∀ (v4 : Int32) (o0 : cf_O) (o1 : cf_O) (o2 : cf_O) (o3 : cf_O) (o4 : cf_O) (r : cf_O × cf_O), gCv_writeTo n 0 v4 0 0 o0 o1 o2 o3 o4 = some r → phSB o4 ≤ phSB r.2) ∧ (∀ (v4 : Int32) (v5 : Int32) (v6 : Int32) (o0 : cf_O) (o1 : cf_O) (o2 : cf_O) (o3 : cf_O) (o4 : cf_O) (r : cf_O × cf_O), gCv_writeTo n 1 v4 v5 v6 o0 o1 o2 o3 o4 = some r → phSB o4 ≤ phSB r.2) ∧ (∀ (v4 : Int32) (o0 : cf_O) (o1 : cf_O) (o2 : cf_O) (o3 : cf_O) (o4 : cf_O) (r : cf_O × cf_O), gCv_writeTo n 2 v4 0 0 o0 o1 o2 o3 o4 = some r → phSB o4 ≤ phSB r.2)
set_option maxRecDepth 100000 in
theorem nCv_writeTo_166 {n : Nat} (ih : NICv_writeTo n) (o0 : cf_O) (o1 : cf_O) (o2 : cf_O) (o3 : cf_O) (o4 : cf_O) (r : cf_O × cf_O) (h : fCv_writeTo_166 (gCv_writeTo n) o0 o1 o2 o3 o4 = some r) : phSB o4 ≤ phSB r.2 := by
  have hm : phSB o4 ≤ phSB o4 := Nat.le_refl _
  obtain rfl := Option.some.inj h
  exact hm
set_option maxRecDepth 100000 in
theorem nCv_writeTo_156 {n : Nat} (ih : NICv_writeTo n) (v4 : Int32) (o0 : cf_O) (o1 : cf_O) (o2 : cf_O) (o3 : cf_O) (o4 : cf_O) (r : cf_O × cf_O) (h : fCv_writeTo_156 (gCv_writeTo n) v4 o0 o1 o2 o3 o4 = some r) : phSB o4 ≤ phSB r.2 := by
  have hm : phSB o4 ≤ phSB o4 := Nat.le_refl _
  obtain ⟨x_1, ex_1, h⟩ := op_kx h
  exact Nat.le_trans hm ((ih.2.2) _ _ _ _ _ _ _ h)
set_option maxRecDepth 100000 in
theorem nCv_writeTo_153 {n : Nat} (ih : NICv_writeTo n) (v4 : Int32) (s2 : Int32) (s3 : Int32) (s4 : Int32) (o0 : cf_O) (o1 : cf_O) (o2 : cf_O) (o3 : cf_O) (o4 : cf_O) (r : cf_O × cf_O) (h : fCv_writeTo_153 (gCv_writeTo n) v4 s2 s3 s4 o0 o1 o2 o3 o4 = some r) : phSB o4 ≤ phSB r.2 := by
  have hm : phSB o4 ≤ phSB o4 := Nat.le_refl _
  obtain ⟨q_1, hq_1, h⟩ := op_b h
  have hm : phSB o4 ≤ phSB q_1 := Nat.le_trans hm (nSc_writeResult _ _ _ _ _ _ _ hq_1)
  exact Nat.le_trans hm (nCv_writeTo_156 ih _ _ _ _ _ _ _ h)
set_option maxRecDepth 100000 in
theorem nCv_writeTo_114 {n : Nat} (ih : NICv_writeTo n) (v4 : Int32) (o0 : cf_O) (o1 : cf_O) (o2 : cf_O) (o3 : cf_O) (o4 : cf_O) (r : cf_O × cf_O) (h : fCv_writeTo_114 (gCv_writeTo n) v4 o0 o1 o2 o3 o4 = some r) : phSB o4 ≤ phSB r.2 := by
  have hm : phSB o4 ≤ phSB o4 := Nat.le_refl _
  rcases (Classical.em ((o3.1 1) ≤ v4)) with c_1 | c_1
  · have h := op_t c_1 h
    obtain ⟨q_2, hq_2, h⟩ := op_b h
    have hm : phSB o4 ≤ phSB q_2.2 := Nat.le_trans hm (nSc_close _ _ _ hq_2)
    exact Nat.le_trans hm (nCv_writeTo_166 ih _ _ _ _ _ _ h)
  · have h := op_f c_1 h
    obtain ⟨hi_7, h⟩ := op_n h
    obtain ⟨x_8, ex_8, h⟩ := op_kx h
    obtain ⟨x_9, ex_9, h⟩ := op_kx h
    obtain ⟨x_10, ex_10, h⟩ := op_kx h
    rcases (Classical.em (x_10 = (0 : Int32))) with c_11 | c_11
    · have h := op_t c_11 h
      exact Nat.le_trans hm (nCv_writeTo_153 ih _ _ _ _ _ _ _ _ _ _ h)
    · have h := op_f c_11 h
      exact Nat.le_trans hm (nCv_writeTo_153 ih _ _ _ _ _ _ _ _ _ _ h)
set_option maxRecDepth 100000 in
theorem nCv_writeTo_105 {n : Nat} (ih : NICv_writeTo n) (v4 : Int32) (o0 : cf_O) (o1 : cf_O) (o2 : cf_O) (o3 : cf_O) (o4 : cf_O) (r : cf_O × cf_O) (h : fCv_writeTo_105 (gCv_writeTo n) v4 o0 o1 o2 o3 o4 = some r) : phSB o4 ≤ phSB r.2 := by
  have hm : phSB o4 ≤ phSB o4 := Nat.le_refl _
  obtain ⟨x_1, ex_1, h⟩ := op_kx h
  exact Nat.le_trans hm ((ih.1) _ _ _ _ _ _ _ h)
set_option maxRecDepth 100000 in
theorem nCv_writeTo_91 {n : Nat} (ih : NICv_writeTo n) (v4 : Int32) (v5 : Int32) (o0 : cf_O) (o1 : cf_O) (o2 : cf_O) (o3 : cf_O) (o4 : cf_O) (r : cf_O × cf_O) (h : fCv_writeTo_91 (gCv_writeTo n) v4 v5 o0 o1 o2 o3 o4 = some r) : phSB o4 ≤ phSB r.2 := by
  have hm : phSB o4 ≤ phSB o4 := Nat.le_refl _
  obtain ⟨hi_1, h⟩ := op_n h
  obtain ⟨x_2, ex_2, h⟩ := op_kx h
  obtain ⟨q_3, hq_3, h⟩ := op_b h
  have hm : phSB o4 ≤ phSB q_3 := Nat.le_trans hm (nCv_writeRows _ _ _ _ _ hq_3)
  exact Nat.le_trans hm (nCv_writeTo_105 ih _ _ _ _ _ _ _ h)
set_option maxRecDepth 100000 in
theorem nCv_writeTo_82 {n : Nat} (ih : NICv_writeTo n) (v4 : Int32) (v5 : Int32) (o0 : cf_O) (o1 : cf_O) (o2 : cf_O) (o3 : cf_O) (o4 : cf_O) (r : cf_O × cf_O) (h : fCv_writeTo_82 (gCv_writeTo n) v4 v5 o0 o1 o2 o3 o4 = some r) : phSB o4 ≤ phSB r.2 := by
  have hm : phSB o4 ≤ phSB o4 := Nat.le_refl _
  obtain ⟨q_1, hq_1, h⟩ := op_b h
  have hm : phSB o4 ≤ phSB q_1 := Nat.le_trans hm (nSB_appendC _ _ _ hq_1)
  exact Nat.le_trans hm (nCv_writeTo_91 ih _ _ _ _ _ _ _ _ h)
set_option maxRecDepth 100000 in
theorem nCv_writeTo_64 {n : Nat} (ih : NICv_writeTo n) (v4 : Int32) (v5 : Int32) (v6 : Int32) (o0 : cf_O) (o1 : cf_O) (o2 : cf_O) (o3 : cf_O) (o4 : cf_O) (r : cf_O × cf_O) (h : fCv_writeTo_64 (gCv_writeTo n) v4 v5 v6 o0 o1 o2 o3 o4 = some r) : phSB o4 ≤ phSB r.2 := by
  have hm : phSB o4 ≤ phSB o4 := Nat.le_refl _
  obtain ⟨x_1, ex_1, h⟩ := op_kx h
  exact Nat.le_trans hm ((ih.2.1) _ _ _ _ _ _ _ _ _ h)
set_option maxRecDepth 100000 in
theorem nCv_writeTo_61 {n : Nat} (ih : NICv_writeTo n) (v4 : Int32) (v5 : Int32) (v6 : Int32) (s2 : Int32) (o0 : cf_O) (o1 : cf_O) (o2 : cf_O) (o3 : cf_O) (o4 : cf_O) (r : cf_O × cf_O) (h : fCv_writeTo_61 (gCv_writeTo n) v4 v5 v6 s2 o0 o1 o2 o3 o4 = some r) : phSB o4 ≤ phSB r.2 := by
  have hm : phSB o4 ≤ phSB o4 := Nat.le_refl _
  obtain ⟨q_1, hq_1, h⟩ := op_b h
  have hm : phSB o4 ≤ phSB q_1 := Nat.le_trans hm (nSc_writeNode _ _ _ _ _ hq_1)
  exact Nat.le_trans hm (nCv_writeTo_64 ih _ _ _ _ _ _ _ _ _ h)
set_option maxRecDepth 100000 in
theorem nCv_writeTo_56 {n : Nat} (ih : NICv_writeTo n) (v4 : Int32) (v5 : Int32) (v6 : Int32) (s2 : Int64) (o0 : cf_O) (o1 : cf_O) (o2 : cf_O) (o3 : cf_O) (o4 : cf_O) (r : cf_O × cf_O) (h : fCv_writeTo_56 (gCv_writeTo n) v4 v5 v6 s2 o0 o1 o2 o3 o4 = some r) : phSB o4 ≤ phSB r.2 := by
  have hm : phSB o4 ≤ phSB o4 := Nat.le_refl _
  obtain ⟨q_1, hq_1, h⟩ := op_b h
  exact Nat.le_trans hm (nCv_writeTo_61 ih _ _ _ _ _ _ _ _ _ _ h)
set_option maxRecDepth 100000 in
theorem nCv_writeTo_41 {n : Nat} (ih : NICv_writeTo n) (v4 : Int32) (v5 : Int32) (v6 : Int32) (o0 : cf_O) (o1 : cf_O) (o2 : cf_O) (o3 : cf_O) (o4 : cf_O) (r : cf_O × cf_O) (h : fCv_writeTo_41 (gCv_writeTo n) v4 v5 v6 o0 o1 o2 o3 o4 = some r) : phSB o4 ≤ phSB r.2 := by
  have hm : phSB o4 ≤ phSB o4 := Nat.le_refl _
  rcases (Classical.em (v5 ≤ v6)) with c_1 | c_1
  · have h := op_t c_1 h
    obtain ⟨hi_2, h⟩ := op_n h
    obtain ⟨x_3, ex_3, h⟩ := op_kx h
    obtain ⟨q_4, hq_4, h⟩ := op_b h
    have hm : phSB o4 ≤ phSB q_4 := Nat.le_trans hm (nSc_writeNode _ _ _ _ _ hq_4)
    exact Nat.le_trans hm (nCv_writeTo_82 ih _ _ _ _ _ _ _ _ h)
  · have h := op_f c_1 h
    obtain ⟨q_9, hq_9, h⟩ := op_b h
    exact Nat.le_trans hm (nCv_writeTo_56 ih _ _ _ _ _ _ _ _ _ _ h)
set_option maxRecDepth 100000 in
theorem nCv_writeTo_37 {n : Nat} (ih : NICv_writeTo n) (v4 : Int32) (v5 : Int32) (o0 : cf_O) (o1 : cf_O) (o2 : cf_O) (o3 : cf_O) (o4 : cf_O) (r : cf_O × cf_O) (h : fCv_writeTo_37 (gCv_writeTo n) v4 v5 o0 o1 o2 o3 o4 = some r) : phSB o4 ≤ phSB r.2 := by
  have hm : phSB o4 ≤ phSB o4 := Nat.le_refl _
  exact Nat.le_trans hm ((ih.2.1) _ _ _ _ _ _ _ _ _ h)
set_option maxRecDepth 100000 in
theorem nCv_writeTo_26 {n : Nat} (ih : NICv_writeTo n) (v4 : Int32) (s0 : Int32) (o0 : cf_O) (o1 : cf_O) (o2 : cf_O) (o3 : cf_O) (o4 : cf_O) (r : cf_O × cf_O) (h : fCv_writeTo_26 (gCv_writeTo n) v4 s0 o0 o1 o2 o3 o4 = some r) : phSB o4 ≤ phSB r.2 := by
  have hm : phSB o4 ≤ phSB o4 := Nat.le_refl _
  obtain ⟨q_1, hq_1, h⟩ := op_b h
  have hm : phSB o4 ≤ phSB q_1 := Nat.le_trans hm (nSB_appendS_S8 _ _ hq_1)
  exact Nat.le_trans hm (nCv_writeTo_37 ih _ _ _ _ _ _ _ _ h)
set_option maxRecDepth 100000 in
theorem nCv_writeTo_23 {n : Nat} (ih : NICv_writeTo n) (v4 : Int32) (s0 : Int64) (o0 : cf_O) (o1 : cf_O) (o2 : cf_O) (o3 : cf_O) (o4 : cf_O) (r : cf_O × cf_O) (h : fCv_writeTo_23 (gCv_writeTo n) v4 s0 o0 o1 o2 o3 o4 = some r) : phSB o4 ≤ phSB r.2 := by
  have hm : phSB o4 ≤ phSB o4 := Nat.le_refl _
  obtain ⟨q_1, hq_1, h⟩ := op_b h
  exact Nat.le_trans hm (nCv_writeTo_26 ih _ _ _ _ _ _ _ _ h)
set_option maxRecDepth 100000 in
theorem nCv_writeTo_8 {n : Nat} (ih : NICv_writeTo n) (v4 : Int32) (o0 : cf_O) (o1 : cf_O) (o2 : cf_O) (o3 : cf_O) (o4 : cf_O) (r : cf_O × cf_O) (h : fCv_writeTo_8 (gCv_writeTo n) v4 o0 o1 o2 o3 o4 = some r) : phSB o4 ≤ phSB r.2 := by
  have hm : phSB o4 ≤ phSB o4 := Nat.le_refl _
  rcases (Classical.em ((o0.1 0) ≤ v4)) with c_1 | c_1
  · have h := op_t c_1 h
    exact Nat.le_trans hm ((ih.2.2) _ _ _ _ _ _ _ h)
  · have h := op_f c_1 h
    obtain ⟨q_2, hq_2, h⟩ := op_b h
    exact Nat.le_trans hm (nCv_writeTo_23 ih _ _ _ _ _ _ _ _ h)
set_option maxRecDepth 100000 in
theorem nCv_writeTo_5 {n : Nat} (ih : NICv_writeTo n) (o0 : cf_O) (o1 : cf_O) (o2 : cf_O) (o3 : cf_O) (o4 : cf_O) (r : cf_O × cf_O) (h : fCv_writeTo_5 (gCv_writeTo n) o0 o1 o2 o3 o4 = some r) : phSB o4 ≤ phSB r.2 := by
  have hm : phSB o4 ≤ phSB o4 := Nat.le_refl _
  exact Nat.le_trans hm ((ih.1) _ _ _ _ _ _ _ h)
set_option maxRecDepth 100000 in
theorem nCv_writeTo_0 {n : Nat} (ih : NICv_writeTo n) (o0 : cf_O) (o1 : cf_O) (o2 : cf_O) (o3 : cf_O) (o4 : cf_O) (r : cf_O × cf_O) (h : fCv_writeTo_0 (gCv_writeTo n) o0 o1 o2 o3 o4 = some r) : phSB o4 ≤ phSB r.2 := by
  have hm : phSB o4 ≤ phSB o4 := Nat.le_refl _
  obtain ⟨q_1, hq_1, h⟩ := op_b h
  have hm : phSB o4 ≤ phSB q_1 := Nat.le_trans hm (nSc_writeHead _ _ _ _ hq_1)
  exact Nat.le_trans hm (nCv_writeTo_5 ih _ _ _ _ _ _ h)
theorem niCv_writeTo : ∀ n, NICv_writeTo n := by
  intro n
  induction n with
  | zero => exact ⟨(fun _ _ _ _ _ _ r h => by cases (show none = some r from h)), (fun _ _ _ _ _ _ _ _ r h => by cases (show none = some r from h)), (fun _ _ _ _ _ _ r h => by cases (show none = some r from h))⟩
  | succ n ih => exact ⟨fun x0 x1 x2 x3 x4 x5 r h => nCv_writeTo_8 ih x0 x1 x2 x3 x4 x5 r h, fun x0 x1 x2 x3 x4 x5 x6 x7 r h => nCv_writeTo_41 ih x0 x1 x2 x3 x4 x5 x6 x7 r h, fun x0 x1 x2 x3 x4 x5 r h => nCv_writeTo_114 ih x0 x1 x2 x3 x4 x5 r h⟩
theorem nCv_writeTo (o0 : cf_O) (o1 : cf_O) (o2 : cf_O) (o3 : cf_O) (o4 : cf_O) (r : cf_O × cf_O) (h : fCv_writeTo o0 o1 o2 o3 o4 = some r) : phSB o4 ≤ phSB r.2 := nCv_writeTo_0 (niCv_writeTo cfFU) o0 o1 o2 o3 o4 r h
def IhCv_writeTo (p : Program) (l : Launch) (e : Env) (s : State) (m : MethodId) (below : List Frame) (meth : Method) (c : Code) (A : Nat → Prop) (D : va_G) (K : Nat → ClassId) (h0 : Nat) (a0 : Nat → Nat) (h1 : Nat) (h2 : Nat) (a2 : Nat → Nat) (h3 : Nat) (a3 : Nat → Nat) (h4 : Nat) (os : cf_O) (AR : Array Value) (n : Nat) : Prop := (∀ (v4 : Int32) (o0 : cf_O) (o1 : cf_O) (o2 : cf_O) (o3 : cf_O) (o4 : cf_O) (r : cf_O × cf_O), gCv_writeTo n 0 v4 0 0 o0 o1 o2 o3 o4 = some r → ∀ {a4 : Nat → Nat} {H : Heap} {locs : List Loc} {ls : Array Slot}, (phSB os ≤ phSB o4) → (va_P D vwCl (wCv K h0 a0 o0 ++ wSc K h1 (fun _ => h4) o1 ++ wNl K h2 a2 o2 ++ wGr K h3 a3 o3 ++ wSB K h4 a4 o4) H) → (va_D A (wCv K h0 a0 o0 ++ wSc K h1 (fun _ => h4) o1 ++ wNl K h2 a2 o2 ++ wGr K h3 a3 o3 ++ wSB K h4 a4 o4)) → va_S A s.heap H locs → lv_has ls 7 [(0, .ref h0), (1, .ref h1), (2, .ref h2), (3, .ref h3), (4, .int v4)] → W p l e ({ frames := 9, cells := (gC (phSB os) (phSB r.2)), slots := (gS (phSB os) (phSB r.2)), locals := 238 }) s m AR below meth c H locs (gC (phSB os) (phSB o4)) (gS (phSB os) (phSB o4)) (MQ below (va_Qv (fun (_ : Nat → Nat) => True) (fun (u : Nat → Nat) t => cf_At D A (wCv K h0 a0 o0 ++ wSc K h1 (fun _ => h4) r.1 ++ wNl K h2 a2 o2 ++ wGr K h3 a3 o3 ++ wSB K h4 u r.2) t) A) AR s (gC (phSB os) (phSB r.2)) (gS (phSB os) (phSB r.2)) A) (F0 m 8 ls [])) ∧ (∀ (v4 : Int32) (v5 : Int32) (v6 : Int32) (o0 : cf_O) (o1 : cf_O) (o2 : cf_O) (o3 : cf_O) (o4 : cf_O) (r : cf_O × cf_O), gCv_writeTo n 1 v4 v5 v6 o0 o1 o2 o3 o4 = some r → ∀ {a4 : Nat → Nat} {H : Heap} {locs : List Loc} {ls : Array Slot}, (phSB os ≤ phSB o4) → (va_P D vwCl (wCv K h0 a0 o0 ++ wSc K h1 (fun _ => h4) o1 ++ wNl K h2 a2 o2 ++ wGr K h3 a3 o3 ++ wSB K h4 a4 o4) H) → (va_D A (wCv K h0 a0 o0 ++ wSc K h1 (fun _ => h4) o1 ++ wNl K h2 a2 o2 ++ wGr K h3 a3 o3 ++ wSB K h4 a4 o4)) → va_S A s.heap H locs → lv_has ls 7 [(0, .ref h0), (1, .ref h1), (2, .ref h2), (3, .ref h3), (4, .int v4), (5, .int v5), (6, .int v6)] → W p l e ({ frames := 9, cells := (gC (phSB os) (phSB r.2)), slots := (gS (phSB os) (phSB r.2)), locals := 238 }) s m AR below meth c H locs (gC (phSB os) (phSB o4)) (gS (phSB os) (phSB o4)) (MQ below (va_Qv (fun (_ : Nat → Nat) => True) (fun (u : Nat → Nat) t => cf_At D A (wCv K h0 a0 o0 ++ wSc K h1 (fun _ => h4) r.1 ++ wNl K h2 a2 o2 ++ wGr K h3 a3 o3 ++ wSB K h4 u r.2) t) A) AR s (gC (phSB os) (phSB r.2)) (gS (phSB os) (phSB r.2)) A) (F0 m 41 ls [])) ∧ (∀ (v4 : Int32) (o0 : cf_O) (o1 : cf_O) (o2 : cf_O) (o3 : cf_O) (o4 : cf_O) (r : cf_O × cf_O), gCv_writeTo n 2 v4 0 0 o0 o1 o2 o3 o4 = some r → ∀ {a4 : Nat → Nat} {H : Heap} {locs : List Loc} {ls : Array Slot}, (phSB os ≤ phSB o4) → (va_P D vwCl (wCv K h0 a0 o0 ++ wSc K h1 (fun _ => h4) o1 ++ wNl K h2 a2 o2 ++ wGr K h3 a3 o3 ++ wSB K h4 a4 o4) H) → (va_D A (wCv K h0 a0 o0 ++ wSc K h1 (fun _ => h4) o1 ++ wNl K h2 a2 o2 ++ wGr K h3 a3 o3 ++ wSB K h4 a4 o4)) → va_S A s.heap H locs → lv_has ls 7 [(1, .ref h1), (2, .ref h2), (3, .ref h3), (4, .int v4)] → W p l e ({ frames := 9, cells := (gC (phSB os) (phSB r.2)), slots := (gS (phSB os) (phSB r.2)), locals := 238 }) s m AR below meth c H locs (gC (phSB os) (phSB o4)) (gS (phSB os) (phSB o4)) (MQ below (va_Qv (fun (_ : Nat → Nat) => True) (fun (u : Nat → Nat) t => cf_At D A (wCv K h0 a0 o0 ++ wSc K h1 (fun _ => h4) r.1 ++ wNl K h2 a2 o2 ++ wGr K h3 a3 o3 ++ wSB K h4 u r.2) t) A) AR s (gC (phSB os) (phSB r.2)) (gS (phSB os) (phSB r.2)) A) (F0 m 114 ls []))
set_option maxHeartbeats 4000000 in
set_option maxRecDepth 100000 in
theorem bCv_writeTo_166 {p : Program} {l : Launch} {e : Env} {s : State} {m : MethodId} {below : List Frame} {meth : Method} {c : Code} {A : Nat → Prop} {D : va_G} {K : Nat → ClassId} {h0 : Nat} {a0 : Nat → Nat} {h1 : Nat} {h2 : Nat} {a2 : Nat → Nat} {h3 : Nat} {a3 : Nat → Nat} {h4 : Nat} {os : cf_O} {AR : Array Value} (C : (dc_C p s m AR meth c cCv_writeTo 7 (Option.none : Option Jvm.ClassFile.FieldType) yCv_writeTo ∧ cf_E D K A s s.heap ∧ ∀ q, s.heap.size ≤ q → A q)) {n : Nat} (ih : IhCv_writeTo p l e s m below meth c A D K h0 a0 h1 h2 a2 h3 a3 h4 os AR n) (o0 : cf_O) (o1 : cf_O) (o2 : cf_O) (o3 : cf_O) (o4 : cf_O) (r : cf_O × cf_O) (h : fCv_writeTo_166 (gCv_writeTo n) o0 o1 o2 o3 o4 = some r) {a4 : Nat → Nat} {H : Heap} {locs : List Loc} {ls : Array Slot} (hg : phSB os ≤ phSB o4) (hP : va_P D vwCl (wCv K h0 a0 o0 ++ wSc K h1 (fun _ => h4) o1 ++ wNl K h2 a2 o2 ++ wGr K h3 a3 o3 ++ wSB K h4 a4 o4) H) (hD : va_D A (wCv K h0 a0 o0 ++ wSc K h1 (fun _ => h4) o1 ++ wNl K h2 a2 o2 ++ wGr K h3 a3 o3 ++ wSB K h4 a4 o4)) (hS : va_S A s.heap H locs) (hl : lv_has ls 7 []) : W p l e ({ frames := 9, cells := (gC (phSB os) (phSB r.2)), slots := (gS (phSB os) (phSB r.2)), locals := 238 }) s m AR below meth c H locs (gC (phSB os) (phSB o4)) (gS (phSB os) (phSB o4)) (MQ below (va_Qv (fun (_ : Nat → Nat) => True) (fun (u : Nat → Nat) t => cf_At D A (wCv K h0 a0 o0 ++ wSc K h1 (fun _ => h4) r.1 ++ wNl K h2 a2 o2 ++ wGr K h3 a3 o3 ++ wSB K h4 u r.2) t) A) AR s (gC (phSB os) (phSB r.2)) (gS (phSB os) (phSB r.2)) A) (F0 m 166 ls []) := by
  obtain ⟨⟨hx, hb, hr, hts, hown, hlocks, hin, hml⟩, hE, hA⟩ := id C
  have hK := hE.k
  obtain rfl := Option.some.inj h
  exact dc_vretG a4 hx hb hr hlocks hP hD hS dCv_writeTo_166
set_option maxHeartbeats 4000000 in
set_option maxRecDepth 100000 in
theorem bCv_writeTo_156 {p : Program} {l : Launch} {e : Env} {s : State} {m : MethodId} {below : List Frame} {meth : Method} {c : Code} {A : Nat → Prop} {D : va_G} {K : Nat → ClassId} {h0 : Nat} {a0 : Nat → Nat} {h1 : Nat} {h2 : Nat} {a2 : Nat → Nat} {h3 : Nat} {a3 : Nat → Nat} {h4 : Nat} {os : cf_O} {AR : Array Value} (C : (dc_C p s m AR meth c cCv_writeTo 7 (Option.none : Option Jvm.ClassFile.FieldType) yCv_writeTo ∧ cf_E D K A s s.heap ∧ ∀ q, s.heap.size ≤ q → A q)) {n : Nat} (ih : IhCv_writeTo p l e s m below meth c A D K h0 a0 h1 h2 a2 h3 a3 h4 os AR n) (v4 : Int32) (o0 : cf_O) (o1 : cf_O) (o2 : cf_O) (o3 : cf_O) (o4 : cf_O) (r : cf_O × cf_O) (h : fCv_writeTo_156 (gCv_writeTo n) v4 o0 o1 o2 o3 o4 = some r) {a4 : Nat → Nat} {H : Heap} {locs : List Loc} {ls : Array Slot} (hg : phSB os ≤ phSB o4) (hP : va_P D vwCl (wCv K h0 a0 o0 ++ wSc K h1 (fun _ => h4) o1 ++ wNl K h2 a2 o2 ++ wGr K h3 a3 o3 ++ wSB K h4 a4 o4) H) (hD : va_D A (wCv K h0 a0 o0 ++ wSc K h1 (fun _ => h4) o1 ++ wNl K h2 a2 o2 ++ wGr K h3 a3 o3 ++ wSB K h4 a4 o4)) (hS : va_S A s.heap H locs) (hl : lv_has ls 7 [(1, .ref h1), (2, .ref h2), (3, .ref h3), (4, .int v4)]) : W p l e ({ frames := 9, cells := (gC (phSB os) (phSB r.2)), slots := (gS (phSB os) (phSB r.2)), locals := 238 }) s m AR below meth c H locs (gC (phSB os) (phSB o4)) (gS (phSB os) (phSB o4)) (MQ below (va_Qv (fun (_ : Nat → Nat) => True) (fun (u : Nat → Nat) t => cf_At D A (wCv K h0 a0 o0 ++ wSc K h1 (fun _ => h4) r.1 ++ wNl K h2 a2 o2 ++ wGr K h3 a3 o3 ++ wSB K h4 u r.2) t) A) AR s (gC (phSB os) (phSB r.2)) (gS (phSB os) (phSB r.2)) A) (F0 m 156 ls []) := by
  obtain ⟨⟨hx, hb, hr, hts, hown, hlocks, hin, hml⟩, hE, hA⟩ := id C
  have hK := hE.k
  obtain ⟨x_1, ex_1⟩ : ∃ y : Int32, y = v4 + 1 := ⟨_, rfl⟩
  refine lv_iinc (v := x_1) (lv' := [(4, .int x_1), (1, .ref h1), (2, .ref h2), (3, .ref h3)]) hx hb dCv_writeTo_156 hl (k := 3) rfl (by rw [ex_1]; rfl) (by decide) rfl (fun ls hl => ?_)
  have h := op_ks ex_1 h
  refine lv_goto (tgt := 114) hx hb dCv_writeTo_159 (by decide) ?_
  exact (ih.2.2) _ _ _ _ _ _ _ h hg hP hD hS (lv_sub hl [1, 2, 3, 0] rfl)
set_option maxHeartbeats 4000000 in
set_option maxRecDepth 100000 in
theorem bCv_writeTo_153 {p : Program} {l : Launch} {e : Env} {s : State} {m : MethodId} {below : List Frame} {meth : Method} {c : Code} {A : Nat → Prop} {D : va_G} {K : Nat → ClassId} {h0 : Nat} {a0 : Nat → Nat} {h1 : Nat} {h2 : Nat} {a2 : Nat → Nat} {h3 : Nat} {a3 : Nat → Nat} {h4 : Nat} {os : cf_O} {AR : Array Value} (C : (dc_C p s m AR meth c cCv_writeTo 7 (Option.none : Option Jvm.ClassFile.FieldType) yCv_writeTo ∧ cf_E D K A s s.heap ∧ ∀ q, s.heap.size ≤ q → A q)) {n : Nat} (ih : IhCv_writeTo p l e s m below meth c A D K h0 a0 h1 h2 a2 h3 a3 h4 os AR n) (v4 : Int32) (s2 : Int32) (s3 : Int32) (s4 : Int32) (o0 : cf_O) (o1 : cf_O) (o2 : cf_O) (o3 : cf_O) (o4 : cf_O) (r : cf_O × cf_O) (h : fCv_writeTo_153 (gCv_writeTo n) v4 s2 s3 s4 o0 o1 o2 o3 o4 = some r) {a4 : Nat → Nat} {H : Heap} {locs : List Loc} {ls : Array Slot} (hg : phSB os ≤ phSB o4) (hP : va_P D vwCl (wCv K h0 a0 o0 ++ wSc K h1 (fun _ => h4) o1 ++ wNl K h2 a2 o2 ++ wGr K h3 a3 o3 ++ wSB K h4 a4 o4) H) (hD : va_D A (wCv K h0 a0 o0 ++ wSc K h1 (fun _ => h4) o1 ++ wNl K h2 a2 o2 ++ wGr K h3 a3 o3 ++ wSB K h4 a4 o4)) (hS : va_S A s.heap H locs) (hl : lv_has ls 7 [(1, .ref h1), (2, .ref h2), (3, .ref h3), (4, .int v4)]) : W p l e ({ frames := 9, cells := (gC (phSB os) (phSB r.2)), slots := (gS (phSB os) (phSB r.2)), locals := 238 }) s m AR below meth c H locs (gC (phSB os) (phSB o4)) (gS (phSB os) (phSB o4)) (MQ below (va_Qv (fun (_ : Nat → Nat) => True) (fun (u : Nat → Nat) t => cf_At D A (wCv K h0 a0 o0 ++ wSc K h1 (fun _ => h4) r.1 ++ wNl K h2 a2 o2 ++ wGr K h3 a3 o3 ++ wSB K h4 u r.2) t) A) AR s (gC (phSB os) (phSB r.2)) (gS (phSB os) (phSB r.2)) A) (F0 m 153 ls [.int s4, .int s3, .int s2, .ref h2, .ref h1]) := by
  obtain ⟨⟨hx, hb, hr, hts, hown, hlocks, hin, hml⟩, hE, hA⟩ := id C
  have hK := hE.k
  obtain ⟨q_1, hq_1, h⟩ := op_b h
  have hgr_2 : phSB q_1 ≤ phSB r.2 := nCv_writeTo_156 (niCv_writeTo n) _ _ _ _ _ _ _ h
  have hg2_3 : phSB o4 ≤ phSB q_1 := nSc_writeResult _ _ _ _ _ _ _ hq_1
  refine cf_callv (wc := wSc K h1 (fun _ => h4) o1 ++ wNl K h2 a2 o2 ++ wSB K h4 a4 o4) (wr := wCv K h0 a0 o0 ++ wGr K h3 a3 o3) (va_runV (As := [.ref h2, .int s2, .int s3, .int s4]) (rest := []) ⟨hx, hb, hml, hown, hts⟩ (mSc_writeResult l D K _ s2 s3 s4 h1 h2 a2 h4 a4 o1 o2 o4 _ hq_1) (cwV 4 hts (cf_GV wv_1832 wv_1833 wv_1834 wv_165 wv_1835) rfl rfl rfl (by decide +kernel) ⟨Nat.le_of_ble_eq_true rfl, Nat.le_of_ble_eq_true rfl⟩) (cf_preV (wc := wSc K h1 (fun _ => h4) o1 ++ wNl K h2 a2 o2 ++ wSB K h4 a4 o4) hE hP hD hS hA rfl 6 rfl [6, 7, 8, 9, 10, 11, 12, 13, 14, 15, 16, 17, 18, 19, 27, 28] rfl (by decide +kernel)) rfl rfl hl.1 rfl (lv_room (Nat.le_of_ble_eq_true rfl)) dCv_writeTo_153 ⟨Nat.le_trans (gC_add hg hg2_3) (gC_le hgr_2), Nat.le_trans (gS_add hg hg2_3) (gS_le hgr_2)⟩) hP hD hS hA [6, 7, 8, 9, 10, 11, 12, 13, 14, 15, 16, 17, 18, 19, 27, 28] [0, 1, 2, 3, 4, 5, 20, 21, 22, 23, 24, 25, 26] rfl rfl (by decide +kernel) (by decide +kernel) (fun a4_5 H locs hw_4 hP hD hS => ?_)
  have hP : va_P D vwCl (wCv K h0 a0 o0 ++ wSc K h1 (fun _ => h4) o1 ++ wNl K h2 a2 o2 ++ wGr K h3 a3 o3 ++ wSB K h4 a4_5 q_1) H := hP.sub [0, 1, 2, 3, 4, 5, 13, 14, 15, 16, 17, 18, 19, 20, 21, 22, 23, 24, 25, 26, 6, 7, 8, 9, 10, 11, 12, 27, 28] rfl
  have hD : va_D A (wCv K h0 a0 o0 ++ wSc K h1 (fun _ => h4) o1 ++ wNl K h2 a2 o2 ++ wGr K h3 a3 o3 ++ wSB K h4 a4_5 q_1) := hD.sub [0, 1, 2, 3, 4, 5, 13, 14, 15, 16, 17, 18, 19, 20, 21, 22, 23, 24, 25, 26, 6, 7, 8, 9, 10, 11, 12, 27, 28] (by decide +kernel) rfl
  refine W.widen (k := (gC (phSB os) (phSB q_1))) (n := (gS (phSB os) (phSB q_1))) (gC_add hg hg2_3) (gS_add hg hg2_3) ?_
  have hg : phSB os ≤ phSB q_1 := Nat.le_trans hg hg2_3
  exact bCv_writeTo_156 C ih _ _ _ _ _ _ _ h hg hP hD hS (lv_sub hl [0, 1, 2, 3] rfl)
set_option maxHeartbeats 4000000 in
set_option maxRecDepth 100000 in
theorem bCv_writeTo_114 {p : Program} {l : Launch} {e : Env} {s : State} {m : MethodId} {below : List Frame} {meth : Method} {c : Code} {A : Nat → Prop} {D : va_G} {K : Nat → ClassId} {h0 : Nat} {a0 : Nat → Nat} {h1 : Nat} {h2 : Nat} {a2 : Nat → Nat} {h3 : Nat} {a3 : Nat → Nat} {h4 : Nat} {os : cf_O} {AR : Array Value} (C : (dc_C p s m AR meth c cCv_writeTo 7 (Option.none : Option Jvm.ClassFile.FieldType) yCv_writeTo ∧ cf_E D K A s s.heap ∧ ∀ q, s.heap.size ≤ q → A q)) {n : Nat} (ih : IhCv_writeTo p l e s m below meth c A D K h0 a0 h1 h2 a2 h3 a3 h4 os AR n) (v4 : Int32) (o0 : cf_O) (o1 : cf_O) (o2 : cf_O) (o3 : cf_O) (o4 : cf_O) (r : cf_O × cf_O) (h : fCv_writeTo_114 (gCv_writeTo n) v4 o0 o1 o2 o3 o4 = some r) {a4 : Nat → Nat} {H : Heap} {locs : List Loc} {ls : Array Slot} (hg : phSB os ≤ phSB o4) (hP : va_P D vwCl (wCv K h0 a0 o0 ++ wSc K h1 (fun _ => h4) o1 ++ wNl K h2 a2 o2 ++ wGr K h3 a3 o3 ++ wSB K h4 a4 o4) H) (hD : va_D A (wCv K h0 a0 o0 ++ wSc K h1 (fun _ => h4) o1 ++ wNl K h2 a2 o2 ++ wGr K h3 a3 o3 ++ wSB K h4 a4 o4)) (hS : va_S A s.heap H locs) (hl : lv_has ls 7 [(1, .ref h1), (2, .ref h2), (3, .ref h3), (4, .int v4)]) : W p l e ({ frames := 9, cells := (gC (phSB os) (phSB r.2)), slots := (gS (phSB os) (phSB r.2)), locals := 238 }) s m AR below meth c H locs (gC (phSB os) (phSB o4)) (gS (phSB os) (phSB o4)) (MQ below (va_Qv (fun (_ : Nat → Nat) => True) (fun (u : Nat → Nat) t => cf_At D A (wCv K h0 a0 o0 ++ wSc K h1 (fun _ => h4) r.1 ++ wNl K h2 a2 o2 ++ wGr K h3 a3 o3 ++ wSB K h4 u r.2) t) A) AR s (gC (phSB os) (phSB r.2)) (gS (phSB os) (phSB r.2)) A) (F0 m 114 ls []) := by
  obtain ⟨⟨hx, hb, hr, hts, hown, hlocks, hin, hml⟩, hE, hA⟩ := id C
  have hK := hE.k
  refine lv_iload hx hb dCv_writeTo_114 (lv_at hl 3 rfl) ?_
  refine lv_aload_n hx hb dCv_writeTo_116 rfl (lv_at hl 2 rfl) ?_
  refine va_get (D := D) (ci := 3) (v := .int (o3.1 1)) (C := RGr) (T := TGr) (N := 10) hx hb hts inGr hown hK hP 20 rfl rfl 1 (by decide) (hts _ wv_552) (fun _ h9 => h9) rfl dCv_writeTo_117 ?_
  refine lv_icmp_ge (tgt := 162) hx hb dCv_writeTo_120 (by decide) (fun c_1 => ?_) (fun c_1 => ?_)
  · have h := op_t c_1 h
    refine lv_aload_n hx hb dCv_writeTo_162 rfl (lv_at hl 0 rfl) ?_
    obtain ⟨q_2, hq_2, h⟩ := op_b h
    have hgr_3 : phSB q_2.2 ≤ phSB r.2 := nCv_writeTo_166 (niCv_writeTo n) _ _ _ _ _ _ h
    have hg2_4 : phSB o4 ≤ phSB q_2.2 := nSc_close _ _ _ hq_2
    refine cf_callv (wc := wSc K h1 (fun _ => h4) o1 ++ wSB K h4 a4 o4) (wr := wCv K h0 a0 o0 ++ wNl K h2 a2 o2 ++ wGr K h3 a3 o3) (va_runV (As := []) (rest := []) ⟨hx, hb, hml, hown, hts⟩ (mSc_close l D K _ h1 h4 a4 o1 o4 _ hq_2) (cwV 0 hts (cf_GV wv_1840 wv_1841 wv_1842 wv_165 wv_1843) rfl rfl rfl (by decide +kernel) ⟨Nat.le_of_ble_eq_true rfl, Nat.le_of_ble_eq_true rfl⟩) (cf_preV (wc := wSc K h1 (fun _ => h4) o1 ++ wSB K h4 a4 o4) hE hP hD hS hA rfl 6 rfl [6, 27, 28] rfl (by decide +kernel)) rfl rfl hl.1 rfl (lv_room (Nat.le_of_ble_eq_true rfl)) dCv_writeTo_163 ⟨Nat.le_trans (gC_add hg hg2_4) (gC_le hgr_3), Nat.le_trans (gS_add hg hg2_4) (gS_le hgr_3)⟩) hP hD hS hA [6, 27, 28] [0, 1, 2, 3, 4, 5, 7, 8, 9, 10, 11, 12, 13, 14, 15, 16, 17, 18, 19, 20, 21, 22, 23, 24, 25, 26] rfl rfl (by decide +kernel) (by decide +kernel) (fun a4_6 H locs hw_5 hP hD hS => ?_)
    have hP : va_P D vwCl (wCv K h0 a0 o0 ++ wSc K h1 (fun _ => h4) q_2.1 ++ wNl K h2 a2 o2 ++ wGr K h3 a3 o3 ++ wSB K h4 a4_6 q_2.2) H := hP.sub [0, 1, 2, 3, 4, 5, 26, 6, 7, 8, 9, 10, 11, 12, 13, 14, 15, 16, 17, 18, 19, 20, 21, 22, 23, 24, 25, 27, 28] rfl
    have hD : va_D A (wCv K h0 a0 o0 ++ wSc K h1 (fun _ => h4) q_2.1 ++ wNl K h2 a2 o2 ++ wGr K h3 a3 o3 ++ wSB K h4 a4_6 q_2.2) := hD.sub [0, 1, 2, 3, 4, 5, 26, 6, 7, 8, 9, 10, 11, 12, 13, 14, 15, 16, 17, 18, 19, 20, 21, 22, 23, 24, 25, 27, 28] (by decide +kernel) rfl
    refine W.widen (k := (gC (phSB os) (phSB q_2.2))) (n := (gS (phSB os) (phSB q_2.2))) (gC_add hg hg2_4) (gS_add hg hg2_4) ?_
    have hg : phSB os ≤ phSB q_2.2 := Nat.le_trans hg hg2_4
    exact bCv_writeTo_166 C ih _ _ _ _ _ _ h hg hP hD hS (lv_sub hl [] rfl)
  · have h := op_f c_1 h
    refine lv_aload_n hx hb dCv_writeTo_123 rfl (lv_at hl 2 rfl) ?_
    refine va_get (D := D) (ci := 3) (v := .ref (a3 7)) (C := RGr) (T := TGr) (N := 10) hx hb hts inGr hown hK hP 20 rfl rfl 7 (by decide) (hts _ wv_576) (fun _ h9 => h9) rfl dCv_writeTo_124 ?_
    refine lv_iload hx hb dCv_writeTo_127 (lv_at hl 3 rfl) ?_
    obtain ⟨hi_7, h⟩ := op_n h
    refine va_iald (D := D) hx hb hK hP 24 0 rfl rfl hi_7 dCv_writeTo_129 ?_
    refine lv_topi (fun x_8 ex_8 => ?_)
    have h := op_ks ex_8 h
    refine lv_istore (lv' := [(5, .int x_8), (1, .ref h1), (2, .ref h2), (3, .ref h3), (4, .int v4)]) hx hb dCv_writeTo_130 hl (by decide) rfl (fun ls hl => ?_)
    refine lv_aload_n hx hb dCv_writeTo_132 rfl (lv_at hl 1 rfl) ?_
    refine lv_aload_n hx hb dCv_writeTo_133 rfl (lv_at hl 2 rfl) ?_
    refine lv_iload hx hb dCv_writeTo_134 (lv_at hl 4 rfl) ?_
    refine lv_iload hx hb dCv_writeTo_136 (lv_at hl 0 rfl) ?_
    refine lv_bipush (v := (-2)) hx hb dCv_writeTo_138 (by decide) ?_
    refine lv_iand hx hb dCv_writeTo_140 ?_
    refine lv_topi (fun x_9 ex_9 => ?_)
    have h := op_ks ex_9 h
    refine lv_iload hx hb dCv_writeTo_141 (lv_at hl 0 rfl) ?_
    refine lv_iconst (v := 1) hx hb dCv_writeTo_143 (by decide) ?_
    refine lv_iand hx hb dCv_writeTo_144 ?_
    refine lv_topi (fun x_10 ex_10 => ?_)
    have h := op_ks ex_10 h
    refine lv_if_eq (tgt := 152) hx hb dCv_writeTo_145 (by decide) (fun c_11 => ?_) (fun c_11 => ?_)
    · have h := op_t c_11 h
      refine lv_iconst (v := 0) hx hb dCv_writeTo_152 (by decide) ?_
      exact bCv_writeTo_153 C ih _ _ _ _ _ _ _ _ _ _ h hg hP hD hS (lv_sub hl [1, 2, 3, 4] rfl)
    · have h := op_f c_11 h
      refine lv_iconst (v := 1) hx hb dCv_writeTo_148 (by decide) ?_
      refine lv_goto (tgt := 153) hx hb dCv_writeTo_149 (by decide) ?_
      exact bCv_writeTo_153 C ih _ _ _ _ _ _ _ _ _ _ h hg hP hD hS (lv_sub hl [1, 2, 3, 4] rfl)
set_option maxHeartbeats 4000000 in
set_option maxRecDepth 100000 in
theorem bCv_writeTo_105 {p : Program} {l : Launch} {e : Env} {s : State} {m : MethodId} {below : List Frame} {meth : Method} {c : Code} {A : Nat → Prop} {D : va_G} {K : Nat → ClassId} {h0 : Nat} {a0 : Nat → Nat} {h1 : Nat} {h2 : Nat} {a2 : Nat → Nat} {h3 : Nat} {a3 : Nat → Nat} {h4 : Nat} {os : cf_O} {AR : Array Value} (C : (dc_C p s m AR meth c cCv_writeTo 7 (Option.none : Option Jvm.ClassFile.FieldType) yCv_writeTo ∧ cf_E D K A s s.heap ∧ ∀ q, s.heap.size ≤ q → A q)) {n : Nat} (ih : IhCv_writeTo p l e s m below meth c A D K h0 a0 h1 h2 a2 h3 a3 h4 os AR n) (v4 : Int32) (o0 : cf_O) (o1 : cf_O) (o2 : cf_O) (o3 : cf_O) (o4 : cf_O) (r : cf_O × cf_O) (h : fCv_writeTo_105 (gCv_writeTo n) v4 o0 o1 o2 o3 o4 = some r) {a4 : Nat → Nat} {H : Heap} {locs : List Loc} {ls : Array Slot} (hg : phSB os ≤ phSB o4) (hP : va_P D vwCl (wCv K h0 a0 o0 ++ wSc K h1 (fun _ => h4) o1 ++ wNl K h2 a2 o2 ++ wGr K h3 a3 o3 ++ wSB K h4 a4 o4) H) (hD : va_D A (wCv K h0 a0 o0 ++ wSc K h1 (fun _ => h4) o1 ++ wNl K h2 a2 o2 ++ wGr K h3 a3 o3 ++ wSB K h4 a4 o4)) (hS : va_S A s.heap H locs) (hl : lv_has ls 7 [(0, .ref h0), (1, .ref h1), (2, .ref h2), (3, .ref h3), (4, .int v4)]) : W p l e ({ frames := 9, cells := (gC (phSB os) (phSB r.2)), slots := (gS (phSB os) (phSB r.2)), locals := 238 }) s m AR below meth c H locs (gC (phSB os) (phSB o4)) (gS (phSB os) (phSB o4)) (MQ below (va_Qv (fun (_ : Nat → Nat) => True) (fun (u : Nat → Nat) t => cf_At D A (wCv K h0 a0 o0 ++ wSc K h1 (fun _ => h4) r.1 ++ wNl K h2 a2 o2 ++ wGr K h3 a3 o3 ++ wSB K h4 u r.2) t) A) AR s (gC (phSB os) (phSB r.2)) (gS (phSB os) (phSB r.2)) A) (F0 m 105 ls []) := by
  obtain ⟨⟨hx, hb, hr, hts, hown, hlocks, hin, hml⟩, hE, hA⟩ := id C
  have hK := hE.k
  obtain ⟨x_1, ex_1⟩ : ∃ y : Int32, y = v4 + 1 := ⟨_, rfl⟩
  refine lv_iinc (v := x_1) (lv' := [(4, .int x_1), (0, .ref h0), (1, .ref h1), (2, .ref h2), (3, .ref h3)]) hx hb dCv_writeTo_105 hl (k := 4) rfl (by rw [ex_1]; rfl) (by decide) rfl (fun ls hl => ?_)
  have h := op_ks ex_1 h
  refine lv_goto (tgt := 8) hx hb dCv_writeTo_108 (by decide) ?_
  exact (ih.1) _ _ _ _ _ _ _ h hg hP hD hS (lv_sub hl [1, 2, 3, 4, 0] rfl)
set_option maxHeartbeats 4000000 in
set_option maxRecDepth 100000 in
theorem bCv_writeTo_91 {p : Program} {l : Launch} {e : Env} {s : State} {m : MethodId} {below : List Frame} {meth : Method} {c : Code} {A : Nat → Prop} {D : va_G} {K : Nat → ClassId} {h0 : Nat} {a0 : Nat → Nat} {h1 : Nat} {h2 : Nat} {a2 : Nat → Nat} {h3 : Nat} {a3 : Nat → Nat} {h4 : Nat} {os : cf_O} {AR : Array Value} (C : (dc_C p s m AR meth c cCv_writeTo 7 (Option.none : Option Jvm.ClassFile.FieldType) yCv_writeTo ∧ cf_E D K A s s.heap ∧ ∀ q, s.heap.size ≤ q → A q)) {n : Nat} (ih : IhCv_writeTo p l e s m below meth c A D K h0 a0 h1 h2 a2 h3 a3 h4 os AR n) (v4 : Int32) (v5 : Int32) (o0 : cf_O) (o1 : cf_O) (o2 : cf_O) (o3 : cf_O) (o4 : cf_O) (r : cf_O × cf_O) (h : fCv_writeTo_91 (gCv_writeTo n) v4 v5 o0 o1 o2 o3 o4 = some r) {a4 : Nat → Nat} {H : Heap} {locs : List Loc} {ls : Array Slot} (hg : phSB os ≤ phSB o4) (hP : va_P D vwCl (wCv K h0 a0 o0 ++ wSc K h1 (fun _ => h4) o1 ++ wNl K h2 a2 o2 ++ wGr K h3 a3 o3 ++ wSB K h4 a4 o4) H) (hD : va_D A (wCv K h0 a0 o0 ++ wSc K h1 (fun _ => h4) o1 ++ wNl K h2 a2 o2 ++ wGr K h3 a3 o3 ++ wSB K h4 a4 o4)) (hS : va_S A s.heap H locs) (hl : lv_has ls 7 [(0, .ref h0), (1, .ref h1), (2, .ref h2), (3, .ref h3), (4, .int v4), (5, .int v5)]) : W p l e ({ frames := 9, cells := (gC (phSB os) (phSB r.2)), slots := (gS (phSB os) (phSB r.2)), locals := 238 }) s m AR below meth c H locs (gC (phSB os) (phSB o4)) (gS (phSB os) (phSB o4)) (MQ below (va_Qv (fun (_ : Nat → Nat) => True) (fun (u : Nat → Nat) t => cf_At D A (wCv K h0 a0 o0 ++ wSc K h1 (fun _ => h4) r.1 ++ wNl K h2 a2 o2 ++ wGr K h3 a3 o3 ++ wSB K h4 u r.2) t) A) AR s (gC (phSB os) (phSB r.2)) (gS (phSB os) (phSB r.2)) A) (F0 m 91 ls [.ref h4]) := by
  obtain ⟨⟨hx, hb, hr, hts, hown, hlocks, hin, hml⟩, hE, hA⟩ := id C
  have hK := hE.k
  refine lv_pop hx hb dCv_writeTo_91 rfl ?_
  refine lv_aload_n hx hb dCv_writeTo_92 rfl (lv_at hl 1 rfl) ?_
  refine lv_aload_n hx hb dCv_writeTo_93 rfl (lv_at hl 0 rfl) ?_
  refine va_get (D := D) (ci := 8) (v := .ref (a0 3)) (C := RCv) (T := TCv) (N := 7) hx hb hts inCv hown hK hP 0 rfl rfl 3 (by decide) (hts _ wv_375) (fun _ h9 => h9) rfl dCv_writeTo_94 ?_
  refine lv_iload hx hb dCv_writeTo_97 (lv_at hl 4 rfl) ?_
  obtain ⟨hi_1, h⟩ := op_n h
  refine va_iald (D := D) hx hb hK hP 2 0 rfl rfl hi_1 dCv_writeTo_99 ?_
  refine lv_topi (fun x_2 ex_2 => ?_)
  have h := op_ks ex_2 h
  refine lv_iload hx hb dCv_writeTo_100 (lv_at hl 5 rfl) ?_
  obtain ⟨q_3, hq_3, h⟩ := op_b h
  have hgr_4 : phSB q_3 ≤ phSB r.2 := nCv_writeTo_105 (niCv_writeTo n) _ _ _ _ _ _ _ h
  have hg2_5 : phSB o4 ≤ phSB q_3 := nCv_writeRows _ _ _ _ _ hq_3
  refine cf_callv (wc := wSc K h1 (fun _ => h4) o1 ++ wSB K h4 a4 o4) (wr := wCv K h0 a0 o0 ++ wNl K h2 a2 o2 ++ wGr K h3 a3 o3) (va_runS (As := [.ref h1, .int x_2, .int v5]) (rest := []) ⟨hx, hb, hml, hown, hts⟩ (mCv_writeRows l D K _ x_2 v5 h1 h4 a4 o1 o4 _ hq_3) (va_cwS 3 hts (cf_GS wv_1828 wv_1829 wv_163 wv_1830) rfl rfl rfl (by decide +kernel) ⟨Nat.le_of_ble_eq_true rfl, Nat.le_of_ble_eq_true rfl⟩) (cf_preS (wc := wSc K h1 (fun _ => h4) o1 ++ wSB K h4 a4 o4) hE hP hD hS hA [6, 27, 28] rfl (by decide +kernel)) rfl rfl hl.1 rfl (lv_room (Nat.le_of_ble_eq_true rfl)) dCv_writeTo_102 ⟨Nat.le_trans (gC_add hg hg2_5) (gC_le hgr_4), Nat.le_trans (gS_add hg hg2_5) (gS_le hgr_4)⟩) hP hD hS hA [6, 27, 28] [0, 1, 2, 3, 4, 5, 7, 8, 9, 10, 11, 12, 13, 14, 15, 16, 17, 18, 19, 20, 21, 22, 23, 24, 25, 26] rfl rfl (by decide +kernel) (by decide +kernel) (fun a4_7 H locs hw_6 hP hD hS => ?_)
  have hP : va_P D vwCl (wCv K h0 a0 o0 ++ wSc K h1 (fun _ => h4) o1 ++ wNl K h2 a2 o2 ++ wGr K h3 a3 o3 ++ wSB K h4 a4_7 q_3) H := hP.sub [0, 1, 2, 3, 4, 5, 26, 6, 7, 8, 9, 10, 11, 12, 13, 14, 15, 16, 17, 18, 19, 20, 21, 22, 23, 24, 25, 27, 28] rfl
  have hD : va_D A (wCv K h0 a0 o0 ++ wSc K h1 (fun _ => h4) o1 ++ wNl K h2 a2 o2 ++ wGr K h3 a3 o3 ++ wSB K h4 a4_7 q_3) := hD.sub [0, 1, 2, 3, 4, 5, 26, 6, 7, 8, 9, 10, 11, 12, 13, 14, 15, 16, 17, 18, 19, 20, 21, 22, 23, 24, 25, 27, 28] (by decide +kernel) rfl
  refine W.widen (k := (gC (phSB os) (phSB q_3))) (n := (gS (phSB os) (phSB q_3))) (gC_add hg hg2_5) (gS_add hg hg2_5) ?_
  have hg : phSB os ≤ phSB q_3 := Nat.le_trans hg hg2_5
  exact bCv_writeTo_105 C ih _ _ _ _ _ _ _ h hg hP hD hS (lv_sub hl [0, 1, 2, 3, 4] rfl)
set_option maxHeartbeats 4000000 in
set_option maxRecDepth 100000 in
theorem bCv_writeTo_82 {p : Program} {l : Launch} {e : Env} {s : State} {m : MethodId} {below : List Frame} {meth : Method} {c : Code} {A : Nat → Prop} {D : va_G} {K : Nat → ClassId} {h0 : Nat} {a0 : Nat → Nat} {h1 : Nat} {h2 : Nat} {a2 : Nat → Nat} {h3 : Nat} {a3 : Nat → Nat} {h4 : Nat} {os : cf_O} {AR : Array Value} (C : (dc_C p s m AR meth c cCv_writeTo 7 (Option.none : Option Jvm.ClassFile.FieldType) yCv_writeTo ∧ cf_E D K A s s.heap ∧ ∀ q, s.heap.size ≤ q → A q)) {n : Nat} (ih : IhCv_writeTo p l e s m below meth c A D K h0 a0 h1 h2 a2 h3 a3 h4 os AR n) (v4 : Int32) (v5 : Int32) (o0 : cf_O) (o1 : cf_O) (o2 : cf_O) (o3 : cf_O) (o4 : cf_O) (r : cf_O × cf_O) (h : fCv_writeTo_82 (gCv_writeTo n) v4 v5 o0 o1 o2 o3 o4 = some r) {a4 : Nat → Nat} {H : Heap} {locs : List Loc} {ls : Array Slot} (hg : phSB os ≤ phSB o4) (hP : va_P D vwCl (wCv K h0 a0 o0 ++ wSc K h1 (fun _ => h4) o1 ++ wNl K h2 a2 o2 ++ wGr K h3 a3 o3 ++ wSB K h4 a4 o4) H) (hD : va_D A (wCv K h0 a0 o0 ++ wSc K h1 (fun _ => h4) o1 ++ wNl K h2 a2 o2 ++ wGr K h3 a3 o3 ++ wSB K h4 a4 o4)) (hS : va_S A s.heap H locs) (hl : lv_has ls 7 [(0, .ref h0), (1, .ref h1), (2, .ref h2), (3, .ref h3), (4, .int v4), (5, .int v5)]) : W p l e ({ frames := 9, cells := (gC (phSB os) (phSB r.2)), slots := (gS (phSB os) (phSB r.2)), locals := 238 }) s m AR below meth c H locs (gC (phSB os) (phSB o4)) (gS (phSB os) (phSB o4)) (MQ below (va_Qv (fun (_ : Nat → Nat) => True) (fun (u : Nat → Nat) t => cf_At D A (wCv K h0 a0 o0 ++ wSc K h1 (fun _ => h4) r.1 ++ wNl K h2 a2 o2 ++ wGr K h3 a3 o3 ++ wSB K h4 u r.2) t) A) AR s (gC (phSB os) (phSB r.2)) (gS (phSB os) (phSB r.2)) A) (F0 m 82 ls []) := by
  obtain ⟨⟨hx, hb, hr, hts, hown, hlocks, hin, hml⟩, hE, hA⟩ := id C
  have hK := hE.k
  refine lv_aload_n hx hb dCv_writeTo_82 rfl (lv_at hl 1 rfl) ?_
  refine va_get (D := D) (ci := 10) (v := .ref h4) (C := RSc) (T := TSc) (N := 2) hx hb hts inSc hown hK hP 6 rfl rfl 1 (by decide) (hts _ wv_470) (fun _ h9 => h9) rfl dCv_writeTo_83 ?_
  refine lv_bipush (v := 10) hx hb dCv_writeTo_86 (by decide) ?_
  obtain ⟨q_1, hq_1, h⟩ := op_b h
  have hgr_2 : phSB q_1 ≤ phSB r.2 := nCv_writeTo_91 (niCv_writeTo n) _ _ _ _ _ _ _ _ h
  have hg2_3 : phSB o4 ≤ phSB q_1 := nSB_appendC _ _ _ hq_1
  refine cf_callR (wc := wSB K h4 a4 o4) (wr := wCv K h0 a0 o0 ++ wSc K h1 (fun _ => h4) o1 ++ wNl K h2 a2 o2 ++ wGr K h3 a3 o3) (va_runV (As := [.int 10]) (rest := []) ⟨hx, hb, hml, hown, hts⟩ (mSB_appendC l D K _ 10 h4 a4 o4 _ hq_1) (cwV 1 hts (cf_GV wv_1827 wv_1799 wv_1800 wv_167 wv_1801) rfl rfl rfl (by decide +kernel) ⟨Nat.le_of_ble_eq_true rfl, Nat.le_of_ble_eq_true rfl⟩) (cf_preV (wc := wSB K h4 a4 o4) hE hP hD hS hA rfl 27 rfl [27, 28] rfl (by decide +kernel)) rfl rfl hl.1 rfl (lv_room (Nat.le_of_ble_eq_true rfl)) dCv_writeTo_88 ⟨Nat.le_trans (gC_add hg hg2_3) (gC_le hgr_2), Nat.le_trans (gS_add hg hg2_3) (gS_le hgr_2)⟩) hP hD hS hA [27, 28] [0, 1, 2, 3, 4, 5, 6, 7, 8, 9, 10, 11, 12, 13, 14, 15, 16, 17, 18, 19, 20, 21, 22, 23, 24, 25, 26] rfl rfl (by decide +kernel) (by decide +kernel) (fun a4_5 H locs hw_4 hP hD hS => ?_)
  have hP : va_P D vwCl (wCv K h0 a0 o0 ++ wSc K h1 (fun _ => h4) o1 ++ wNl K h2 a2 o2 ++ wGr K h3 a3 o3 ++ wSB K h4 a4_5 q_1) H := hP.sub [0, 1, 2, 3, 4, 5, 6, 7, 8, 9, 10, 11, 12, 13, 14, 15, 16, 17, 18, 19, 20, 21, 22, 23, 24, 25, 26, 27, 28] rfl
  have hD : va_D A (wCv K h0 a0 o0 ++ wSc K h1 (fun _ => h4) o1 ++ wNl K h2 a2 o2 ++ wGr K h3 a3 o3 ++ wSB K h4 a4_5 q_1) := hD.sub [0, 1, 2, 3, 4, 5, 6, 7, 8, 9, 10, 11, 12, 13, 14, 15, 16, 17, 18, 19, 20, 21, 22, 23, 24, 25, 26, 27, 28] (by decide +kernel) rfl
  refine W.widen (k := (gC (phSB os) (phSB q_1))) (n := (gS (phSB os) (phSB q_1))) (gC_add hg hg2_3) (gS_add hg hg2_3) ?_
  have hg : phSB os ≤ phSB q_1 := Nat.le_trans hg hg2_3
  exact bCv_writeTo_91 C ih _ _ _ _ _ _ _ _ h hg hP hD hS (lv_sub hl [0, 1, 2, 3, 4, 5] rfl)
set_option maxHeartbeats 4000000 in
set_option maxRecDepth 100000 in
theorem bCv_writeTo_64 {p : Program} {l : Launch} {e : Env} {s : State} {m : MethodId} {below : List Frame} {meth : Method} {c : Code} {A : Nat → Prop} {D : va_G} {K : Nat → ClassId} {h0 : Nat} {a0 : Nat → Nat} {h1 : Nat} {h2 : Nat} {a2 : Nat → Nat} {h3 : Nat} {a3 : Nat → Nat} {h4 : Nat} {os : cf_O} {AR : Array Value} (C : (dc_C p s m AR meth c cCv_writeTo 7 (Option.none : Option Jvm.ClassFile.FieldType) yCv_writeTo ∧ cf_E D K A s s.heap ∧ ∀ q, s.heap.size ≤ q → A q)) {n : Nat} (ih : IhCv_writeTo p l e s m below meth c A D K h0 a0 h1 h2 a2 h3 a3 h4 os AR n) (v4 : Int32) (v5 : Int32) (v6 : Int32) (o0 : cf_O) (o1 : cf_O) (o2 : cf_O) (o3 : cf_O) (o4 : cf_O) (r : cf_O × cf_O) (h : fCv_writeTo_64 (gCv_writeTo n) v4 v5 v6 o0 o1 o2 o3 o4 = some r) {a4 : Nat → Nat} {H : Heap} {locs : List Loc} {ls : Array Slot} (hg : phSB os ≤ phSB o4) (hP : va_P D vwCl (wCv K h0 a0 o0 ++ wSc K h1 (fun _ => h4) o1 ++ wNl K h2 a2 o2 ++ wGr K h3 a3 o3 ++ wSB K h4 a4 o4) H) (hD : va_D A (wCv K h0 a0 o0 ++ wSc K h1 (fun _ => h4) o1 ++ wNl K h2 a2 o2 ++ wGr K h3 a3 o3 ++ wSB K h4 a4 o4)) (hS : va_S A s.heap H locs) (hl : lv_has ls 7 [(0, .ref h0), (1, .ref h1), (2, .ref h2), (3, .ref h3), (4, .int v4), (5, .int v5), (6, .int v6)]) : W p l e ({ frames := 9, cells := (gC (phSB os) (phSB r.2)), slots := (gS (phSB os) (phSB r.2)), locals := 238 }) s m AR below meth c H locs (gC (phSB os) (phSB o4)) (gS (phSB os) (phSB o4)) (MQ below (va_Qv (fun (_ : Nat → Nat) => True) (fun (u : Nat → Nat) t => cf_At D A (wCv K h0 a0 o0 ++ wSc K h1 (fun _ => h4) r.1 ++ wNl K h2 a2 o2 ++ wGr K h3 a3 o3 ++ wSB K h4 u r.2) t) A) AR s (gC (phSB os) (phSB r.2)) (gS (phSB os) (phSB r.2)) A) (F0 m 64 ls []) := by
  obtain ⟨⟨hx, hb, hr, hts, hown, hlocks, hin, hml⟩, hE, hA⟩ := id C
  have hK := hE.k
  obtain ⟨x_1, ex_1⟩ : ∃ y : Int32, y = v6 + 1 := ⟨_, rfl⟩
  refine lv_iinc (v := x_1) (lv' := [(6, .int x_1), (0, .ref h0), (1, .ref h1), (2, .ref h2), (3, .ref h3), (4, .int v4), (5, .int v5)]) hx hb dCv_writeTo_64 hl (k := 6) rfl (by rw [ex_1]; rfl) (by decide) rfl (fun ls hl => ?_)
  have h := op_ks ex_1 h
  refine lv_goto (tgt := 41) hx hb dCv_writeTo_67 (by decide) ?_
  exact (ih.2.1) _ _ _ _ _ _ _ _ _ h hg hP hD hS (lv_sub hl [1, 2, 3, 4, 5, 6, 0] rfl)
set_option maxHeartbeats 4000000 in
set_option maxRecDepth 100000 in
theorem bCv_writeTo_61 {p : Program} {l : Launch} {e : Env} {s : State} {m : MethodId} {below : List Frame} {meth : Method} {c : Code} {A : Nat → Prop} {D : va_G} {K : Nat → ClassId} {h0 : Nat} {a0 : Nat → Nat} {h1 : Nat} {h2 : Nat} {a2 : Nat → Nat} {h3 : Nat} {a3 : Nat → Nat} {h4 : Nat} {os : cf_O} {AR : Array Value} (C : (dc_C p s m AR meth c cCv_writeTo 7 (Option.none : Option Jvm.ClassFile.FieldType) yCv_writeTo ∧ cf_E D K A s s.heap ∧ ∀ q, s.heap.size ≤ q → A q)) {n : Nat} (ih : IhCv_writeTo p l e s m below meth c A D K h0 a0 h1 h2 a2 h3 a3 h4 os AR n) (v4 : Int32) (v5 : Int32) (v6 : Int32) (s2 : Int32) (o0 : cf_O) (o1 : cf_O) (o2 : cf_O) (o3 : cf_O) (o4 : cf_O) (r : cf_O × cf_O) (h : fCv_writeTo_61 (gCv_writeTo n) v4 v5 v6 s2 o0 o1 o2 o3 o4 = some r) {a4 : Nat → Nat} {H : Heap} {locs : List Loc} {ls : Array Slot} (hg : phSB os ≤ phSB o4) (hP : va_P D vwCl (wCv K h0 a0 o0 ++ wSc K h1 (fun _ => h4) o1 ++ wNl K h2 a2 o2 ++ wGr K h3 a3 o3 ++ wSB K h4 a4 o4) H) (hD : va_D A (wCv K h0 a0 o0 ++ wSc K h1 (fun _ => h4) o1 ++ wNl K h2 a2 o2 ++ wGr K h3 a3 o3 ++ wSB K h4 a4 o4)) (hS : va_S A s.heap H locs) (hl : lv_has ls 7 [(0, .ref h0), (1, .ref h1), (2, .ref h2), (3, .ref h3), (4, .int v4), (5, .int v5), (6, .int v6)]) : W p l e ({ frames := 9, cells := (gC (phSB os) (phSB r.2)), slots := (gS (phSB os) (phSB r.2)), locals := 238 }) s m AR below meth c H locs (gC (phSB os) (phSB o4)) (gS (phSB os) (phSB o4)) (MQ below (va_Qv (fun (_ : Nat → Nat) => True) (fun (u : Nat → Nat) t => cf_At D A (wCv K h0 a0 o0 ++ wSc K h1 (fun _ => h4) r.1 ++ wNl K h2 a2 o2 ++ wGr K h3 a3 o3 ++ wSB K h4 u r.2) t) A) AR s (gC (phSB os) (phSB r.2)) (gS (phSB os) (phSB r.2)) A) (F0 m 61 ls [.int s2, .ref h2, .ref h1]) := by
  obtain ⟨⟨hx, hb, hr, hts, hown, hlocks, hin, hml⟩, hE, hA⟩ := id C
  have hK := hE.k
  obtain ⟨q_1, hq_1, h⟩ := op_b h
  have hgr_2 : phSB q_1 ≤ phSB r.2 := nCv_writeTo_64 (niCv_writeTo n) _ _ _ _ _ _ _ _ _ h
  have hg2_3 : phSB o4 ≤ phSB q_1 := nSc_writeNode _ _ _ _ _ hq_1
  refine cf_callv (wc := wSc K h1 (fun _ => h4) o1 ++ wNl K h2 a2 o2 ++ wSB K h4 a4 o4) (wr := wCv K h0 a0 o0 ++ wGr K h3 a3 o3) (va_runV (As := [.ref h2, .int s2]) (rest := []) ⟨hx, hb, hml, hown, hts⟩ (mSc_writeNode l D K _ s2 h1 h2 a2 h4 a4 o1 o2 o4 _ hq_1) (cwV 2 hts (cf_GV wv_1816 wv_1817 wv_1818 wv_165 wv_1819) rfl rfl rfl (by decide +kernel) ⟨Nat.le_of_ble_eq_true rfl, Nat.le_of_ble_eq_true rfl⟩) (cf_preV (wc := wSc K h1 (fun _ => h4) o1 ++ wNl K h2 a2 o2 ++ wSB K h4 a4 o4) hE hP hD hS hA rfl 6 rfl [6, 7, 8, 9, 10, 11, 12, 13, 14, 15, 16, 17, 18, 19, 27, 28] rfl (by decide +kernel)) rfl rfl hl.1 rfl (lv_room (Nat.le_of_ble_eq_true rfl)) dCv_writeTo_61 ⟨Nat.le_trans (gC_add hg hg2_3) (gC_le hgr_2), Nat.le_trans (gS_add hg hg2_3) (gS_le hgr_2)⟩) hP hD hS hA [6, 7, 8, 9, 10, 11, 12, 13, 14, 15, 16, 17, 18, 19, 27, 28] [0, 1, 2, 3, 4, 5, 20, 21, 22, 23, 24, 25, 26] rfl rfl (by decide +kernel) (by decide +kernel) (fun a4_5 H locs hw_4 hP hD hS => ?_)
  have hP : va_P D vwCl (wCv K h0 a0 o0 ++ wSc K h1 (fun _ => h4) o1 ++ wNl K h2 a2 o2 ++ wGr K h3 a3 o3 ++ wSB K h4 a4_5 q_1) H := hP.sub [0, 1, 2, 3, 4, 5, 13, 14, 15, 16, 17, 18, 19, 20, 21, 22, 23, 24, 25, 26, 6, 7, 8, 9, 10, 11, 12, 27, 28] rfl
  have hD : va_D A (wCv K h0 a0 o0 ++ wSc K h1 (fun _ => h4) o1 ++ wNl K h2 a2 o2 ++ wGr K h3 a3 o3 ++ wSB K h4 a4_5 q_1) := hD.sub [0, 1, 2, 3, 4, 5, 13, 14, 15, 16, 17, 18, 19, 20, 21, 22, 23, 24, 25, 26, 6, 7, 8, 9, 10, 11, 12, 27, 28] (by decide +kernel) rfl
  refine W.widen (k := (gC (phSB os) (phSB q_1))) (n := (gS (phSB os) (phSB q_1))) (gC_add hg hg2_3) (gS_add hg hg2_3) ?_
  have hg : phSB os ≤ phSB q_1 := Nat.le_trans hg hg2_3
  exact bCv_writeTo_64 C ih _ _ _ _ _ _ _ _ _ h hg hP hD hS (lv_sub hl [0, 1, 2, 3, 4, 5, 6] rfl)
set_option maxHeartbeats 4000000 in
set_option maxRecDepth 100000 in
theorem bCv_writeTo_56 {p : Program} {l : Launch} {e : Env} {s : State} {m : MethodId} {below : List Frame} {meth : Method} {c : Code} {A : Nat → Prop} {D : va_G} {K : Nat → ClassId} {h0 : Nat} {a0 : Nat → Nat} {h1 : Nat} {h2 : Nat} {a2 : Nat → Nat} {h3 : Nat} {a3 : Nat → Nat} {h4 : Nat} {os : cf_O} {AR : Array Value} (C : (dc_C p s m AR meth c cCv_writeTo 7 (Option.none : Option Jvm.ClassFile.FieldType) yCv_writeTo ∧ cf_E D K A s s.heap ∧ ∀ q, s.heap.size ≤ q → A q)) {n : Nat} (ih : IhCv_writeTo p l e s m below meth c A D K h0 a0 h1 h2 a2 h3 a3 h4 os AR n) (v4 : Int32) (v5 : Int32) (v6 : Int32) (s2 : Int64) (o0 : cf_O) (o1 : cf_O) (o2 : cf_O) (o3 : cf_O) (o4 : cf_O) (r : cf_O × cf_O) (h : fCv_writeTo_56 (gCv_writeTo n) v4 v5 v6 s2 o0 o1 o2 o3 o4 = some r) {a4 : Nat → Nat} {H : Heap} {locs : List Loc} {ls : Array Slot} (hg : phSB os ≤ phSB o4) (hP : va_P D vwCl (wCv K h0 a0 o0 ++ wSc K h1 (fun _ => h4) o1 ++ wNl K h2 a2 o2 ++ wGr K h3 a3 o3 ++ wSB K h4 a4 o4) H) (hD : va_D A (wCv K h0 a0 o0 ++ wSc K h1 (fun _ => h4) o1 ++ wNl K h2 a2 o2 ++ wGr K h3 a3 o3 ++ wSB K h4 a4 o4)) (hS : va_S A s.heap H locs) (hl : lv_has ls 7 [(0, .ref h0), (1, .ref h1), (2, .ref h2), (3, .ref h3), (4, .int v4), (5, .int v5), (6, .int v6)]) : W p l e ({ frames := 9, cells := (gC (phSB os) (phSB r.2)), slots := (gS (phSB os) (phSB r.2)), locals := 238 }) s m AR below meth c H locs (gC (phSB os) (phSB o4)) (gS (phSB os) (phSB o4)) (MQ below (va_Qv (fun (_ : Nat → Nat) => True) (fun (u : Nat → Nat) t => cf_At D A (wCv K h0 a0 o0 ++ wSc K h1 (fun _ => h4) r.1 ++ wNl K h2 a2 o2 ++ wGr K h3 a3 o3 ++ wSB K h4 u r.2) t) A) AR s (gC (phSB os) (phSB r.2)) (gS (phSB os) (phSB r.2)) A) (F0 m 56 ls [.long s2, .ref h2, .ref h1]) := by
  obtain ⟨⟨hx, hb, hr, hts, hown, hlocks, hin, hml⟩, hE, hA⟩ := id C
  have hK := hE.k
  refine lv_iload hx hb dCv_writeTo_56 (lv_at hl 6 rfl) ?_
  obtain ⟨q_1, hq_1, h⟩ := op_b h
  have hgr_2 : phSB o4 ≤ phSB r.2 := nCv_writeTo_61 (niCv_writeTo n) _ _ _ _ _ _ _ _ _ _ h
  refine cf_pcalli (va_runS (As := [.long s2, .int v6]) (rest := [.ref h2, .ref h1]) ⟨hx, hb, hml, hown, hts⟩ (mCu_nodeAt l s2 v6 _ hq_1) (va_cwS 2 hts (cf_GS wv_1491 wv_1492 wv_160 wv_1493) rfl rfl rfl (by decide +kernel) ⟨Nat.le_of_ble_eq_true rfl, Nat.le_of_ble_eq_true rfl⟩) preEq rfl rfl hl.1 rfl (lv_room (Nat.le_of_ble_eq_true rfl)) dCv_writeTo_58 ⟨gC_le hgr_2, gS_le hgr_2⟩) (fun r_4 hw_5 => ?_)
  subst r_4
  refine W.widen (k := (gC (phSB os) (phSB o4))) (n := (gS (phSB os) (phSB o4))) (Nat.le_refl _) (Nat.le_refl _) ?_
  exact bCv_writeTo_61 C ih _ _ _ _ _ _ _ _ _ _ h hg hP hD hS (lv_sub hl [0, 1, 2, 3, 4, 5, 6] rfl)
set_option maxHeartbeats 4000000 in
set_option maxRecDepth 100000 in
theorem bCv_writeTo_41 {p : Program} {l : Launch} {e : Env} {s : State} {m : MethodId} {below : List Frame} {meth : Method} {c : Code} {A : Nat → Prop} {D : va_G} {K : Nat → ClassId} {h0 : Nat} {a0 : Nat → Nat} {h1 : Nat} {h2 : Nat} {a2 : Nat → Nat} {h3 : Nat} {a3 : Nat → Nat} {h4 : Nat} {os : cf_O} {AR : Array Value} (C : (dc_C p s m AR meth c cCv_writeTo 7 (Option.none : Option Jvm.ClassFile.FieldType) yCv_writeTo ∧ cf_E D K A s s.heap ∧ ∀ q, s.heap.size ≤ q → A q)) {n : Nat} (ih : IhCv_writeTo p l e s m below meth c A D K h0 a0 h1 h2 a2 h3 a3 h4 os AR n) (v4 : Int32) (v5 : Int32) (v6 : Int32) (o0 : cf_O) (o1 : cf_O) (o2 : cf_O) (o3 : cf_O) (o4 : cf_O) (r : cf_O × cf_O) (h : fCv_writeTo_41 (gCv_writeTo n) v4 v5 v6 o0 o1 o2 o3 o4 = some r) {a4 : Nat → Nat} {H : Heap} {locs : List Loc} {ls : Array Slot} (hg : phSB os ≤ phSB o4) (hP : va_P D vwCl (wCv K h0 a0 o0 ++ wSc K h1 (fun _ => h4) o1 ++ wNl K h2 a2 o2 ++ wGr K h3 a3 o3 ++ wSB K h4 a4 o4) H) (hD : va_D A (wCv K h0 a0 o0 ++ wSc K h1 (fun _ => h4) o1 ++ wNl K h2 a2 o2 ++ wGr K h3 a3 o3 ++ wSB K h4 a4 o4)) (hS : va_S A s.heap H locs) (hl : lv_has ls 7 [(0, .ref h0), (1, .ref h1), (2, .ref h2), (3, .ref h3), (4, .int v4), (5, .int v5), (6, .int v6)]) : W p l e ({ frames := 9, cells := (gC (phSB os) (phSB r.2)), slots := (gS (phSB os) (phSB r.2)), locals := 238 }) s m AR below meth c H locs (gC (phSB os) (phSB o4)) (gS (phSB os) (phSB o4)) (MQ below (va_Qv (fun (_ : Nat → Nat) => True) (fun (u : Nat → Nat) t => cf_At D A (wCv K h0 a0 o0 ++ wSc K h1 (fun _ => h4) r.1 ++ wNl K h2 a2 o2 ++ wGr K h3 a3 o3 ++ wSB K h4 u r.2) t) A) AR s (gC (phSB os) (phSB r.2)) (gS (phSB os) (phSB r.2)) A) (F0 m 41 ls []) := by
  obtain ⟨⟨hx, hb, hr, hts, hown, hlocks, hin, hml⟩, hE, hA⟩ := id C
  have hK := hE.k
  refine lv_iload hx hb dCv_writeTo_41 (lv_at hl 6 rfl) ?_
  refine lv_iload hx hb dCv_writeTo_43 (lv_at hl 5 rfl) ?_
  refine lv_icmp_ge (tgt := 70) hx hb dCv_writeTo_45 (by decide) (fun c_1 => ?_) (fun c_1 => ?_)
  · have h := op_t c_1 h
    refine lv_aload_n hx hb dCv_writeTo_70 rfl (lv_at hl 1 rfl) ?_
    refine lv_aload_n hx hb dCv_writeTo_71 rfl (lv_at hl 2 rfl) ?_
    refine lv_aload_n hx hb dCv_writeTo_72 rfl (lv_at hl 0 rfl) ?_
    refine va_get (D := D) (ci := 8) (v := .ref (a0 2)) (C := RCv) (T := TCv) (N := 7) hx hb hts inCv hown hK hP 0 rfl rfl 2 (by decide) (hts _ wv_373) (fun _ h9 => h9) rfl dCv_writeTo_73 ?_
    refine lv_iload hx hb dCv_writeTo_76 (lv_at hl 4 rfl) ?_
    obtain ⟨hi_2, h⟩ := op_n h
    refine va_iald (D := D) hx hb hK hP 1 0 rfl rfl hi_2 dCv_writeTo_78 ?_
    refine lv_topi (fun x_3 ex_3 => ?_)
    have h := op_ks ex_3 h
    obtain ⟨q_4, hq_4, h⟩ := op_b h
    have hgr_5 : phSB q_4 ≤ phSB r.2 := nCv_writeTo_82 (niCv_writeTo n) _ _ _ _ _ _ _ _ h
    have hg2_6 : phSB o4 ≤ phSB q_4 := nSc_writeNode _ _ _ _ _ hq_4
    refine cf_callv (wc := wSc K h1 (fun _ => h4) o1 ++ wNl K h2 a2 o2 ++ wSB K h4 a4 o4) (wr := wCv K h0 a0 o0 ++ wGr K h3 a3 o3) (va_runV (As := [.ref h2, .int x_3]) (rest := []) ⟨hx, hb, hml, hown, hts⟩ (mSc_writeNode l D K _ x_3 h1 h2 a2 h4 a4 o1 o2 o4 _ hq_4) (cwV 2 hts (cf_GV wv_1816 wv_1817 wv_1818 wv_165 wv_1819) rfl rfl rfl (by decide +kernel) ⟨Nat.le_of_ble_eq_true rfl, Nat.le_of_ble_eq_true rfl⟩) (cf_preV (wc := wSc K h1 (fun _ => h4) o1 ++ wNl K h2 a2 o2 ++ wSB K h4 a4 o4) hE hP hD hS hA rfl 6 rfl [6, 7, 8, 9, 10, 11, 12, 13, 14, 15, 16, 17, 18, 19, 27, 28] rfl (by decide +kernel)) rfl rfl hl.1 rfl (lv_room (Nat.le_of_ble_eq_true rfl)) dCv_writeTo_79 ⟨Nat.le_trans (gC_add hg hg2_6) (gC_le hgr_5), Nat.le_trans (gS_add hg hg2_6) (gS_le hgr_5)⟩) hP hD hS hA [6, 7, 8, 9, 10, 11, 12, 13, 14, 15, 16, 17, 18, 19, 27, 28] [0, 1, 2, 3, 4, 5, 20, 21, 22, 23, 24, 25, 26] rfl rfl (by decide +kernel) (by decide +kernel) (fun a4_8 H locs hw_7 hP hD hS => ?_)
    have hP : va_P D vwCl (wCv K h0 a0 o0 ++ wSc K h1 (fun _ => h4) o1 ++ wNl K h2 a2 o2 ++ wGr K h3 a3 o3 ++ wSB K h4 a4_8 q_4) H := hP.sub [0, 1, 2, 3, 4, 5, 13, 14, 15, 16, 17, 18, 19, 20, 21, 22, 23, 24, 25, 26, 6, 7, 8, 9, 10, 11, 12, 27, 28] rfl
    have hD : va_D A (wCv K h0 a0 o0 ++ wSc K h1 (fun _ => h4) o1 ++ wNl K h2 a2 o2 ++ wGr K h3 a3 o3 ++ wSB K h4 a4_8 q_4) := hD.sub [0, 1, 2, 3, 4, 5, 13, 14, 15, 16, 17, 18, 19, 20, 21, 22, 23, 24, 25, 26, 6, 7, 8, 9, 10, 11, 12, 27, 28] (by decide +kernel) rfl
    refine W.widen (k := (gC (phSB os) (phSB q_4))) (n := (gS (phSB os) (phSB q_4))) (gC_add hg hg2_6) (gS_add hg hg2_6) ?_
    have hg : phSB os ≤ phSB q_4 := Nat.le_trans hg hg2_6
    exact bCv_writeTo_82 C ih _ _ _ _ _ _ _ _ h hg hP hD hS (lv_sub hl [0, 1, 2, 3, 4, 5] rfl)
  · have h := op_f c_1 h
    refine lv_aload_n hx hb dCv_writeTo_48 rfl (lv_at hl 1 rfl) ?_
    refine lv_aload_n hx hb dCv_writeTo_49 rfl (lv_at hl 2 rfl) ?_
    refine lv_aload_n hx hb dCv_writeTo_50 rfl (lv_at hl 0 rfl) ?_
    refine lv_iload hx hb dCv_writeTo_51 (lv_at hl 4 rfl) ?_
    obtain ⟨q_9, hq_9, h⟩ := op_b h
    have hgr_10 : phSB o4 ≤ phSB r.2 := nCv_writeTo_56 (niCv_writeTo n) _ _ _ _ _ _ _ _ _ _ h
    refine cf_calll (wc := wCv K h0 a0 o0) (wr := wSc K h1 (fun _ => h4) o1 ++ wNl K h2 a2 o2 ++ wGr K h3 a3 o3 ++ wSB K h4 a4 o4) (va_runV (As := [.int v4]) (rest := [.ref h2, .ref h1]) ⟨hx, hb, hml, hown, hts⟩ (mCv_cutOf l D K _ v4 h0 a0 o0 _ hq_9) (cwV 1 hts (cf_GV wv_1813 wv_1519 wv_1520 wv_163 wv_1521) rfl rfl rfl (by decide +kernel) ⟨Nat.le_of_ble_eq_true rfl, Nat.le_of_ble_eq_true rfl⟩) (cf_preV (wc := wCv K h0 a0 o0) hE hP hD hS hA rfl 0 rfl [0, 1, 2, 3, 4, 5] rfl (by decide +kernel)) rfl rfl hl.1 rfl (lv_room (Nat.le_of_ble_eq_true rfl)) dCv_writeTo_53 ⟨gC_le hgr_10, gS_le hgr_10⟩) hP hD hS hA [0, 1, 2, 3, 4, 5] [6, 7, 8, 9, 10, 11, 12, 13, 14, 15, 16, 17, 18, 19, 20, 21, 22, 23, 24, 25, 26, 27, 28] rfl rfl (by decide +kernel) (by decide +kernel) (fun r_12 _ H locs hw_13 hP hD hS => ?_)
    subst r_12
    have hP : va_P D vwCl (wCv K h0 a0 o0 ++ wSc K h1 (fun _ => h4) o1 ++ wNl K h2 a2 o2 ++ wGr K h3 a3 o3 ++ wSB K h4 a4 o4) H := hP.sub [23, 24, 25, 26, 27, 28, 0, 1, 2, 3, 4, 5, 6, 7, 8, 9, 10, 11, 12, 13, 14, 15, 16, 17, 18, 19, 20, 21, 22] rfl
    have hD : va_D A (wCv K h0 a0 o0 ++ wSc K h1 (fun _ => h4) o1 ++ wNl K h2 a2 o2 ++ wGr K h3 a3 o3 ++ wSB K h4 a4 o4) := hD.sub [23, 24, 25, 26, 27, 28, 0, 1, 2, 3, 4, 5, 6, 7, 8, 9, 10, 11, 12, 13, 14, 15, 16, 17, 18, 19, 20, 21, 22] (by decide +kernel) rfl
    refine W.widen (k := (gC (phSB os) (phSB o4))) (n := (gS (phSB os) (phSB o4))) (Nat.le_refl _) (Nat.le_refl _) ?_
    exact bCv_writeTo_56 C ih _ _ _ _ _ _ _ _ _ _ h hg hP hD hS (lv_sub hl [0, 1, 2, 3, 4, 5, 6] rfl)
set_option maxHeartbeats 4000000 in
set_option maxRecDepth 100000 in
theorem bCv_writeTo_37 {p : Program} {l : Launch} {e : Env} {s : State} {m : MethodId} {below : List Frame} {meth : Method} {c : Code} {A : Nat → Prop} {D : va_G} {K : Nat → ClassId} {h0 : Nat} {a0 : Nat → Nat} {h1 : Nat} {h2 : Nat} {a2 : Nat → Nat} {h3 : Nat} {a3 : Nat → Nat} {h4 : Nat} {os : cf_O} {AR : Array Value} (C : (dc_C p s m AR meth c cCv_writeTo 7 (Option.none : Option Jvm.ClassFile.FieldType) yCv_writeTo ∧ cf_E D K A s s.heap ∧ ∀ q, s.heap.size ≤ q → A q)) {n : Nat} (ih : IhCv_writeTo p l e s m below meth c A D K h0 a0 h1 h2 a2 h3 a3 h4 os AR n) (v4 : Int32) (v5 : Int32) (o0 : cf_O) (o1 : cf_O) (o2 : cf_O) (o3 : cf_O) (o4 : cf_O) (r : cf_O × cf_O) (h : fCv_writeTo_37 (gCv_writeTo n) v4 v5 o0 o1 o2 o3 o4 = some r) {a4 : Nat → Nat} {H : Heap} {locs : List Loc} {ls : Array Slot} (hg : phSB os ≤ phSB o4) (hP : va_P D vwCl (wCv K h0 a0 o0 ++ wSc K h1 (fun _ => h4) o1 ++ wNl K h2 a2 o2 ++ wGr K h3 a3 o3 ++ wSB K h4 a4 o4) H) (hD : va_D A (wCv K h0 a0 o0 ++ wSc K h1 (fun _ => h4) o1 ++ wNl K h2 a2 o2 ++ wGr K h3 a3 o3 ++ wSB K h4 a4 o4)) (hS : va_S A s.heap H locs) (hl : lv_has ls 7 [(0, .ref h0), (1, .ref h1), (2, .ref h2), (3, .ref h3), (4, .int v4), (5, .int v5)]) : W p l e ({ frames := 9, cells := (gC (phSB os) (phSB r.2)), slots := (gS (phSB os) (phSB r.2)), locals := 238 }) s m AR below meth c H locs (gC (phSB os) (phSB o4)) (gS (phSB os) (phSB o4)) (MQ below (va_Qv (fun (_ : Nat → Nat) => True) (fun (u : Nat → Nat) t => cf_At D A (wCv K h0 a0 o0 ++ wSc K h1 (fun _ => h4) r.1 ++ wNl K h2 a2 o2 ++ wGr K h3 a3 o3 ++ wSB K h4 u r.2) t) A) AR s (gC (phSB os) (phSB r.2)) (gS (phSB os) (phSB r.2)) A) (F0 m 37 ls [.ref h4]) := by
  obtain ⟨⟨hx, hb, hr, hts, hown, hlocks, hin, hml⟩, hE, hA⟩ := id C
  have hK := hE.k
  refine lv_pop hx hb dCv_writeTo_37 rfl ?_
  refine lv_iconst (v := 0) hx hb dCv_writeTo_38 (by decide) ?_
  refine lv_istore (lv' := [(6, .int 0), (0, .ref h0), (1, .ref h1), (2, .ref h2), (3, .ref h3), (4, .int v4), (5, .int v5)]) hx hb dCv_writeTo_39 hl (by decide) rfl (fun ls hl => ?_)
  exact (ih.2.1) _ _ _ _ _ _ _ _ _ h hg hP hD hS (lv_sub hl [1, 2, 3, 4, 5, 6, 0] rfl)
set_option maxHeartbeats 4000000 in
set_option maxRecDepth 100000 in
theorem bCv_writeTo_26 {p : Program} {l : Launch} {e : Env} {s : State} {m : MethodId} {below : List Frame} {meth : Method} {c : Code} {A : Nat → Prop} {D : va_G} {K : Nat → ClassId} {h0 : Nat} {a0 : Nat → Nat} {h1 : Nat} {h2 : Nat} {a2 : Nat → Nat} {h3 : Nat} {a3 : Nat → Nat} {h4 : Nat} {os : cf_O} {AR : Array Value} (C : (dc_C p s m AR meth c cCv_writeTo 7 (Option.none : Option Jvm.ClassFile.FieldType) yCv_writeTo ∧ cf_E D K A s s.heap ∧ ∀ q, s.heap.size ≤ q → A q)) {n : Nat} (ih : IhCv_writeTo p l e s m below meth c A D K h0 a0 h1 h2 a2 h3 a3 h4 os AR n) (v4 : Int32) (s0 : Int32) (o0 : cf_O) (o1 : cf_O) (o2 : cf_O) (o3 : cf_O) (o4 : cf_O) (r : cf_O × cf_O) (h : fCv_writeTo_26 (gCv_writeTo n) v4 s0 o0 o1 o2 o3 o4 = some r) {a4 : Nat → Nat} {H : Heap} {locs : List Loc} {ls : Array Slot} (hg : phSB os ≤ phSB o4) (hP : va_P D vwCl (wCv K h0 a0 o0 ++ wSc K h1 (fun _ => h4) o1 ++ wNl K h2 a2 o2 ++ wGr K h3 a3 o3 ++ wSB K h4 a4 o4) H) (hD : va_D A (wCv K h0 a0 o0 ++ wSc K h1 (fun _ => h4) o1 ++ wNl K h2 a2 o2 ++ wGr K h3 a3 o3 ++ wSB K h4 a4 o4)) (hS : va_S A s.heap H locs) (hl : lv_has ls 7 [(0, .ref h0), (1, .ref h1), (2, .ref h2), (3, .ref h3), (4, .int v4)]) : W p l e ({ frames := 9, cells := (gC (phSB os) (phSB r.2)), slots := (gS (phSB os) (phSB r.2)), locals := 238 }) s m AR below meth c H locs (gC (phSB os) (phSB o4)) (gS (phSB os) (phSB o4)) (MQ below (va_Qv (fun (_ : Nat → Nat) => True) (fun (u : Nat → Nat) t => cf_At D A (wCv K h0 a0 o0 ++ wSc K h1 (fun _ => h4) r.1 ++ wNl K h2 a2 o2 ++ wGr K h3 a3 o3 ++ wSB K h4 u r.2) t) A) AR s (gC (phSB os) (phSB r.2)) (gS (phSB os) (phSB r.2)) A) (F0 m 26 ls [.int s0]) := by
  obtain ⟨⟨hx, hb, hr, hts, hown, hlocks, hin, hml⟩, hE, hA⟩ := id C
  have hK := hE.k
  refine lv_istore (lv' := [(5, .int s0), (0, .ref h0), (1, .ref h1), (2, .ref h2), (3, .ref h3), (4, .int v4)]) hx hb dCv_writeTo_26 hl (by decide) rfl (fun ls hl => ?_)
  refine lv_aload_n hx hb dCv_writeTo_28 rfl (lv_at hl 2 rfl) ?_
  refine va_get (D := D) (ci := 10) (v := .ref h4) (C := RSc) (T := TSc) (N := 2) hx hb hts inSc hown hK hP 6 rfl rfl 1 (by decide) (hts _ wv_470) (fun _ h9 => h9) rfl dCv_writeTo_29 ?_
  refine va_ldcS hx hb hown (hE.s 8 rfl).1 dCv_writeTo_32 ?_
  obtain ⟨q_1, hq_1, h⟩ := op_b h
  have hgr_2 : phSB q_1 ≤ phSB r.2 := nCv_writeTo_37 (niCv_writeTo n) _ _ _ _ _ _ _ _ h
  have hg2_3 : phSB o4 ≤ phSB q_1 := nSB_appendS_S8 _ _ hq_1
  refine cf_callR (wc := wSB K h4 a4 o4) (wr := wCv K h0 a0 o0 ++ wSc K h1 (fun _ => h4) o1 ++ wNl K h2 a2 o2 ++ wGr K h3 a3 o3) (va_runV (As := [.ref (K 108)]) (rest := []) ⟨hx, hb, hml, hown, hts⟩ (mSB_appendS_S8 l D K _ h4 a4 o4 _ hq_1) (cwV 1 hts (cf_GV wv_1815 wv_1555 wv_1556 wv_167 wv_1557) rfl rfl rfl (by decide +kernel) ⟨Nat.le_of_ble_eq_true rfl, Nat.le_of_ble_eq_true rfl⟩) (cf_preV (wc := wSB K h4 a4 o4) hE hP hD hS hA rfl 27 rfl [27, 28] rfl (by decide +kernel)) rfl rfl hl.1 rfl (lv_room (Nat.le_of_ble_eq_true rfl)) dCv_writeTo_34 ⟨Nat.le_trans (gC_add hg hg2_3) (gC_le hgr_2), Nat.le_trans (gS_add hg hg2_3) (gS_le hgr_2)⟩) hP hD hS hA [27, 28] [0, 1, 2, 3, 4, 5, 6, 7, 8, 9, 10, 11, 12, 13, 14, 15, 16, 17, 18, 19, 20, 21, 22, 23, 24, 25, 26] rfl rfl (by decide +kernel) (by decide +kernel) (fun a4_5 H locs hw_4 hP hD hS => ?_)
  have hP : va_P D vwCl (wCv K h0 a0 o0 ++ wSc K h1 (fun _ => h4) o1 ++ wNl K h2 a2 o2 ++ wGr K h3 a3 o3 ++ wSB K h4 a4_5 q_1) H := hP.sub [0, 1, 2, 3, 4, 5, 6, 7, 8, 9, 10, 11, 12, 13, 14, 15, 16, 17, 18, 19, 20, 21, 22, 23, 24, 25, 26, 27, 28] rfl
  have hD : va_D A (wCv K h0 a0 o0 ++ wSc K h1 (fun _ => h4) o1 ++ wNl K h2 a2 o2 ++ wGr K h3 a3 o3 ++ wSB K h4 a4_5 q_1) := hD.sub [0, 1, 2, 3, 4, 5, 6, 7, 8, 9, 10, 11, 12, 13, 14, 15, 16, 17, 18, 19, 20, 21, 22, 23, 24, 25, 26, 27, 28] (by decide +kernel) rfl
  refine W.widen (k := (gC (phSB os) (phSB q_1))) (n := (gS (phSB os) (phSB q_1))) (gC_add hg hg2_3) (gS_add hg hg2_3) ?_
  have hg : phSB os ≤ phSB q_1 := Nat.le_trans hg hg2_3
  exact bCv_writeTo_37 C ih _ _ _ _ _ _ _ _ h hg hP hD hS (lv_sub hl [1, 2, 3, 4, 5, 0] rfl)
set_option maxHeartbeats 4000000 in
set_option maxRecDepth 100000 in
theorem bCv_writeTo_23 {p : Program} {l : Launch} {e : Env} {s : State} {m : MethodId} {below : List Frame} {meth : Method} {c : Code} {A : Nat → Prop} {D : va_G} {K : Nat → ClassId} {h0 : Nat} {a0 : Nat → Nat} {h1 : Nat} {h2 : Nat} {a2 : Nat → Nat} {h3 : Nat} {a3 : Nat → Nat} {h4 : Nat} {os : cf_O} {AR : Array Value} (C : (dc_C p s m AR meth c cCv_writeTo 7 (Option.none : Option Jvm.ClassFile.FieldType) yCv_writeTo ∧ cf_E D K A s s.heap ∧ ∀ q, s.heap.size ≤ q → A q)) {n : Nat} (ih : IhCv_writeTo p l e s m below meth c A D K h0 a0 h1 h2 a2 h3 a3 h4 os AR n) (v4 : Int32) (s0 : Int64) (o0 : cf_O) (o1 : cf_O) (o2 : cf_O) (o3 : cf_O) (o4 : cf_O) (r : cf_O × cf_O) (h : fCv_writeTo_23 (gCv_writeTo n) v4 s0 o0 o1 o2 o3 o4 = some r) {a4 : Nat → Nat} {H : Heap} {locs : List Loc} {ls : Array Slot} (hg : phSB os ≤ phSB o4) (hP : va_P D vwCl (wCv K h0 a0 o0 ++ wSc K h1 (fun _ => h4) o1 ++ wNl K h2 a2 o2 ++ wGr K h3 a3 o3 ++ wSB K h4 a4 o4) H) (hD : va_D A (wCv K h0 a0 o0 ++ wSc K h1 (fun _ => h4) o1 ++ wNl K h2 a2 o2 ++ wGr K h3 a3 o3 ++ wSB K h4 a4 o4)) (hS : va_S A s.heap H locs) (hl : lv_has ls 7 [(0, .ref h0), (1, .ref h1), (2, .ref h2), (3, .ref h3), (4, .int v4)]) : W p l e ({ frames := 9, cells := (gC (phSB os) (phSB r.2)), slots := (gS (phSB os) (phSB r.2)), locals := 238 }) s m AR below meth c H locs (gC (phSB os) (phSB o4)) (gS (phSB os) (phSB o4)) (MQ below (va_Qv (fun (_ : Nat → Nat) => True) (fun (u : Nat → Nat) t => cf_At D A (wCv K h0 a0 o0 ++ wSc K h1 (fun _ => h4) r.1 ++ wNl K h2 a2 o2 ++ wGr K h3 a3 o3 ++ wSB K h4 u r.2) t) A) AR s (gC (phSB os) (phSB r.2)) (gS (phSB os) (phSB r.2)) A) (F0 m 23 ls [.long s0]) := by
  obtain ⟨⟨hx, hb, hr, hts, hown, hlocks, hin, hml⟩, hE, hA⟩ := id C
  have hK := hE.k
  obtain ⟨q_1, hq_1, h⟩ := op_b h
  have hgr_2 : phSB o4 ≤ phSB r.2 := nCv_writeTo_26 (niCv_writeTo n) _ _ _ _ _ _ _ _ h
  refine cf_pcalli (va_runS (As := [.long s0]) (rest := []) ⟨hx, hb, hml, hown, hts⟩ (mCu_sizeOf l s0 _ hq_1) (va_cwS 1 hts (cf_GS wv_1490 wv_1359 wv_160 wv_1360) rfl rfl rfl (by decide +kernel) ⟨Nat.le_of_ble_eq_true rfl, Nat.le_of_ble_eq_true rfl⟩) preEq rfl rfl hl.1 rfl (lv_room (Nat.le_of_ble_eq_true rfl)) dCv_writeTo_23 ⟨gC_le hgr_2, gS_le hgr_2⟩) (fun r_4 hw_5 => ?_)
  subst r_4
  refine W.widen (k := (gC (phSB os) (phSB o4))) (n := (gS (phSB os) (phSB o4))) (Nat.le_refl _) (Nat.le_refl _) ?_
  exact bCv_writeTo_26 C ih _ _ _ _ _ _ _ _ h hg hP hD hS (lv_sub hl [0, 1, 2, 3, 4] rfl)
set_option maxHeartbeats 4000000 in
set_option maxRecDepth 100000 in
theorem bCv_writeTo_8 {p : Program} {l : Launch} {e : Env} {s : State} {m : MethodId} {below : List Frame} {meth : Method} {c : Code} {A : Nat → Prop} {D : va_G} {K : Nat → ClassId} {h0 : Nat} {a0 : Nat → Nat} {h1 : Nat} {h2 : Nat} {a2 : Nat → Nat} {h3 : Nat} {a3 : Nat → Nat} {h4 : Nat} {os : cf_O} {AR : Array Value} (C : (dc_C p s m AR meth c cCv_writeTo 7 (Option.none : Option Jvm.ClassFile.FieldType) yCv_writeTo ∧ cf_E D K A s s.heap ∧ ∀ q, s.heap.size ≤ q → A q)) {n : Nat} (ih : IhCv_writeTo p l e s m below meth c A D K h0 a0 h1 h2 a2 h3 a3 h4 os AR n) (v4 : Int32) (o0 : cf_O) (o1 : cf_O) (o2 : cf_O) (o3 : cf_O) (o4 : cf_O) (r : cf_O × cf_O) (h : fCv_writeTo_8 (gCv_writeTo n) v4 o0 o1 o2 o3 o4 = some r) {a4 : Nat → Nat} {H : Heap} {locs : List Loc} {ls : Array Slot} (hg : phSB os ≤ phSB o4) (hP : va_P D vwCl (wCv K h0 a0 o0 ++ wSc K h1 (fun _ => h4) o1 ++ wNl K h2 a2 o2 ++ wGr K h3 a3 o3 ++ wSB K h4 a4 o4) H) (hD : va_D A (wCv K h0 a0 o0 ++ wSc K h1 (fun _ => h4) o1 ++ wNl K h2 a2 o2 ++ wGr K h3 a3 o3 ++ wSB K h4 a4 o4)) (hS : va_S A s.heap H locs) (hl : lv_has ls 7 [(0, .ref h0), (1, .ref h1), (2, .ref h2), (3, .ref h3), (4, .int v4)]) : W p l e ({ frames := 9, cells := (gC (phSB os) (phSB r.2)), slots := (gS (phSB os) (phSB r.2)), locals := 238 }) s m AR below meth c H locs (gC (phSB os) (phSB o4)) (gS (phSB os) (phSB o4)) (MQ below (va_Qv (fun (_ : Nat → Nat) => True) (fun (u : Nat → Nat) t => cf_At D A (wCv K h0 a0 o0 ++ wSc K h1 (fun _ => h4) r.1 ++ wNl K h2 a2 o2 ++ wGr K h3 a3 o3 ++ wSB K h4 u r.2) t) A) AR s (gC (phSB os) (phSB r.2)) (gS (phSB os) (phSB r.2)) A) (F0 m 8 ls []) := by
  obtain ⟨⟨hx, hb, hr, hts, hown, hlocks, hin, hml⟩, hE, hA⟩ := id C
  have hK := hE.k
  refine lv_iload hx hb dCv_writeTo_8 (lv_at hl 4 rfl) ?_
  refine lv_aload_n hx hb dCv_writeTo_10 rfl (lv_at hl 0 rfl) ?_
  refine va_get (D := D) (ci := 8) (v := .int (o0.1 0)) (C := RCv) (T := TCv) (N := 7) hx hb hts inCv hown hK hP 0 rfl rfl 0 (by decide) (hts _ wv_369) (fun _ h9 => h9) rfl dCv_writeTo_11 ?_
  refine lv_icmp_ge (tgt := 111) hx hb dCv_writeTo_14 (by decide) (fun c_1 => ?_) (fun c_1 => ?_)
  · have h := op_t c_1 h
    refine lv_iconst (v := 0) hx hb dCv_writeTo_111 (by decide) ?_
    refine lv_istore (lv' := [(4, .int 0), (0, .ref h0), (1, .ref h1), (2, .ref h2), (3, .ref h3)]) hx hb dCv_writeTo_112 hl (by decide) rfl (fun ls hl => ?_)
    exact (ih.2.2) _ _ _ _ _ _ _ h hg hP hD hS (lv_sub hl [2, 3, 4, 0] rfl)
  · have h := op_f c_1 h
    refine lv_aload_n hx hb dCv_writeTo_17 rfl (lv_at hl 0 rfl) ?_
    refine lv_iload hx hb dCv_writeTo_18 (lv_at hl 4 rfl) ?_
    obtain ⟨q_2, hq_2, h⟩ := op_b h
    have hgr_3 : phSB o4 ≤ phSB r.2 := nCv_writeTo_23 (niCv_writeTo n) _ _ _ _ _ _ _ _ h
    refine cf_calll (wc := wCv K h0 a0 o0) (wr := wSc K h1 (fun _ => h4) o1 ++ wNl K h2 a2 o2 ++ wGr K h3 a3 o3 ++ wSB K h4 a4 o4) (va_runV (As := [.int v4]) (rest := []) ⟨hx, hb, hml, hown, hts⟩ (mCv_cutOf l D K _ v4 h0 a0 o0 _ hq_2) (cwV 1 hts (cf_GV wv_1813 wv_1519 wv_1520 wv_163 wv_1521) rfl rfl rfl (by decide +kernel) ⟨Nat.le_of_ble_eq_true rfl, Nat.le_of_ble_eq_true rfl⟩) (cf_preV (wc := wCv K h0 a0 o0) hE hP hD hS hA rfl 0 rfl [0, 1, 2, 3, 4, 5] rfl (by decide +kernel)) rfl rfl hl.1 rfl (lv_room (Nat.le_of_ble_eq_true rfl)) dCv_writeTo_20 ⟨gC_le hgr_3, gS_le hgr_3⟩) hP hD hS hA [0, 1, 2, 3, 4, 5] [6, 7, 8, 9, 10, 11, 12, 13, 14, 15, 16, 17, 18, 19, 20, 21, 22, 23, 24, 25, 26, 27, 28] rfl rfl (by decide +kernel) (by decide +kernel) (fun r_5 _ H locs hw_6 hP hD hS => ?_)
    subst r_5
    have hP : va_P D vwCl (wCv K h0 a0 o0 ++ wSc K h1 (fun _ => h4) o1 ++ wNl K h2 a2 o2 ++ wGr K h3 a3 o3 ++ wSB K h4 a4 o4) H := hP.sub [23, 24, 25, 26, 27, 28, 0, 1, 2, 3, 4, 5, 6, 7, 8, 9, 10, 11, 12, 13, 14, 15, 16, 17, 18, 19, 20, 21, 22] rfl
    have hD : va_D A (wCv K h0 a0 o0 ++ wSc K h1 (fun _ => h4) o1 ++ wNl K h2 a2 o2 ++ wGr K h3 a3 o3 ++ wSB K h4 a4 o4) := hD.sub [23, 24, 25, 26, 27, 28, 0, 1, 2, 3, 4, 5, 6, 7, 8, 9, 10, 11, 12, 13, 14, 15, 16, 17, 18, 19, 20, 21, 22] (by decide +kernel) rfl
    refine W.widen (k := (gC (phSB os) (phSB o4))) (n := (gS (phSB os) (phSB o4))) (Nat.le_refl _) (Nat.le_refl _) ?_
    exact bCv_writeTo_23 C ih _ _ _ _ _ _ _ _ h hg hP hD hS (lv_sub hl [0, 1, 2, 3, 4] rfl)
set_option maxHeartbeats 4000000 in
set_option maxRecDepth 100000 in
theorem bCv_writeTo_5 {p : Program} {l : Launch} {e : Env} {s : State} {m : MethodId} {below : List Frame} {meth : Method} {c : Code} {A : Nat → Prop} {D : va_G} {K : Nat → ClassId} {h0 : Nat} {a0 : Nat → Nat} {h1 : Nat} {h2 : Nat} {a2 : Nat → Nat} {h3 : Nat} {a3 : Nat → Nat} {h4 : Nat} {os : cf_O} {AR : Array Value} (C : (dc_C p s m AR meth c cCv_writeTo 7 (Option.none : Option Jvm.ClassFile.FieldType) yCv_writeTo ∧ cf_E D K A s s.heap ∧ ∀ q, s.heap.size ≤ q → A q)) {n : Nat} (ih : IhCv_writeTo p l e s m below meth c A D K h0 a0 h1 h2 a2 h3 a3 h4 os AR n) (o0 : cf_O) (o1 : cf_O) (o2 : cf_O) (o3 : cf_O) (o4 : cf_O) (r : cf_O × cf_O) (h : fCv_writeTo_5 (gCv_writeTo n) o0 o1 o2 o3 o4 = some r) {a4 : Nat → Nat} {H : Heap} {locs : List Loc} {ls : Array Slot} (hg : phSB os ≤ phSB o4) (hP : va_P D vwCl (wCv K h0 a0 o0 ++ wSc K h1 (fun _ => h4) o1 ++ wNl K h2 a2 o2 ++ wGr K h3 a3 o3 ++ wSB K h4 a4 o4) H) (hD : va_D A (wCv K h0 a0 o0 ++ wSc K h1 (fun _ => h4) o1 ++ wNl K h2 a2 o2 ++ wGr K h3 a3 o3 ++ wSB K h4 a4 o4)) (hS : va_S A s.heap H locs) (hl : lv_has ls 7 [(0, .ref h0), (1, .ref h1), (2, .ref h2), (3, .ref h3)]) : W p l e ({ frames := 9, cells := (gC (phSB os) (phSB r.2)), slots := (gS (phSB os) (phSB r.2)), locals := 238 }) s m AR below meth c H locs (gC (phSB os) (phSB o4)) (gS (phSB os) (phSB o4)) (MQ below (va_Qv (fun (_ : Nat → Nat) => True) (fun (u : Nat → Nat) t => cf_At D A (wCv K h0 a0 o0 ++ wSc K h1 (fun _ => h4) r.1 ++ wNl K h2 a2 o2 ++ wGr K h3 a3 o3 ++ wSB K h4 u r.2) t) A) AR s (gC (phSB os) (phSB r.2)) (gS (phSB os) (phSB r.2)) A) (F0 m 5 ls []) := by
  obtain ⟨⟨hx, hb, hr, hts, hown, hlocks, hin, hml⟩, hE, hA⟩ := id C
  have hK := hE.k
  refine lv_iconst (v := 0) hx hb dCv_writeTo_5 (by decide) ?_
  refine lv_istore (lv' := [(4, .int 0), (0, .ref h0), (1, .ref h1), (2, .ref h2), (3, .ref h3)]) hx hb dCv_writeTo_6 hl (by decide) rfl (fun ls hl => ?_)
  exact (ih.1) _ _ _ _ _ _ _ h hg hP hD hS (lv_sub hl [1, 2, 3, 4, 0] rfl)
set_option maxHeartbeats 4000000 in
set_option maxRecDepth 100000 in
theorem bCv_writeTo_0 {p : Program} {l : Launch} {e : Env} {s : State} {m : MethodId} {below : List Frame} {meth : Method} {c : Code} {A : Nat → Prop} {D : va_G} {K : Nat → ClassId} {h0 : Nat} {a0 : Nat → Nat} {h1 : Nat} {h2 : Nat} {a2 : Nat → Nat} {h3 : Nat} {a3 : Nat → Nat} {h4 : Nat} {os : cf_O} {AR : Array Value} (C : (dc_C p s m AR meth c cCv_writeTo 7 (Option.none : Option Jvm.ClassFile.FieldType) yCv_writeTo ∧ cf_E D K A s s.heap ∧ ∀ q, s.heap.size ≤ q → A q)) {n : Nat} (ih : IhCv_writeTo p l e s m below meth c A D K h0 a0 h1 h2 a2 h3 a3 h4 os AR n) (o0 : cf_O) (o1 : cf_O) (o2 : cf_O) (o3 : cf_O) (o4 : cf_O) (r : cf_O × cf_O) (h : fCv_writeTo_0 (gCv_writeTo n) o0 o1 o2 o3 o4 = some r) {a4 : Nat → Nat} {H : Heap} {locs : List Loc} {ls : Array Slot} (hg : phSB os ≤ phSB o4) (hP : va_P D vwCl (wCv K h0 a0 o0 ++ wSc K h1 (fun _ => h4) o1 ++ wNl K h2 a2 o2 ++ wGr K h3 a3 o3 ++ wSB K h4 a4 o4) H) (hD : va_D A (wCv K h0 a0 o0 ++ wSc K h1 (fun _ => h4) o1 ++ wNl K h2 a2 o2 ++ wGr K h3 a3 o3 ++ wSB K h4 a4 o4)) (hS : va_S A s.heap H locs) (hl : lv_has ls 7 [(0, .ref h0), (1, .ref h1), (2, .ref h2), (3, .ref h3)]) : W p l e ({ frames := 9, cells := (gC (phSB os) (phSB r.2)), slots := (gS (phSB os) (phSB r.2)), locals := 238 }) s m AR below meth c H locs (gC (phSB os) (phSB o4)) (gS (phSB os) (phSB o4)) (MQ below (va_Qv (fun (_ : Nat → Nat) => True) (fun (u : Nat → Nat) t => cf_At D A (wCv K h0 a0 o0 ++ wSc K h1 (fun _ => h4) r.1 ++ wNl K h2 a2 o2 ++ wGr K h3 a3 o3 ++ wSB K h4 u r.2) t) A) AR s (gC (phSB os) (phSB r.2)) (gS (phSB os) (phSB r.2)) A) (F0 m 0 ls []) := by
  obtain ⟨⟨hx, hb, hr, hts, hown, hlocks, hin, hml⟩, hE, hA⟩ := id C
  have hK := hE.k
  refine lv_aload_n hx hb dCv_writeTo_0 rfl (lv_at hl 1 rfl) ?_
  refine lv_aload_n hx hb dCv_writeTo_1 rfl (lv_at hl 2 rfl) ?_
  obtain ⟨q_1, hq_1, h⟩ := op_b h
  have hgr_2 : phSB q_1 ≤ phSB r.2 := nCv_writeTo_5 (niCv_writeTo n) _ _ _ _ _ _ h
  have hg2_3 : phSB o4 ≤ phSB q_1 := nSc_writeHead _ _ _ _ hq_1
  refine cf_callv (wc := wSc K h1 (fun _ => h4) o1 ++ wNl K h2 a2 o2 ++ wSB K h4 a4 o4) (wr := wCv K h0 a0 o0 ++ wGr K h3 a3 o3) (va_runV (As := [.ref h2]) (rest := []) ⟨hx, hb, hml, hown, hts⟩ (mSc_writeHead l D K _ h1 h2 a2 h4 a4 o1 o2 o4 _ hq_1) (cwV 1 hts (cf_GV wv_1535 wv_1536 wv_1537 wv_165 wv_1538) rfl rfl rfl (by decide +kernel) ⟨Nat.le_of_ble_eq_true rfl, Nat.le_of_ble_eq_true rfl⟩) (cf_preV (wc := wSc K h1 (fun _ => h4) o1 ++ wNl K h2 a2 o2 ++ wSB K h4 a4 o4) hE hP hD hS hA rfl 6 rfl [6, 7, 8, 9, 10, 11, 12, 13, 14, 15, 16, 17, 18, 19, 27, 28] rfl (by decide +kernel)) rfl rfl hl.1 rfl (lv_room (Nat.le_of_ble_eq_true rfl)) dCv_writeTo_2 ⟨Nat.le_trans (gC_add hg hg2_3) (gC_le hgr_2), Nat.le_trans (gS_add hg hg2_3) (gS_le hgr_2)⟩) hP hD hS hA [6, 7, 8, 9, 10, 11, 12, 13, 14, 15, 16, 17, 18, 19, 27, 28] [0, 1, 2, 3, 4, 5, 20, 21, 22, 23, 24, 25, 26] rfl rfl (by decide +kernel) (by decide +kernel) (fun a4_5 H locs hw_4 hP hD hS => ?_)
  have hP : va_P D vwCl (wCv K h0 a0 o0 ++ wSc K h1 (fun _ => h4) o1 ++ wNl K h2 a2 o2 ++ wGr K h3 a3 o3 ++ wSB K h4 a4_5 q_1) H := hP.sub [0, 1, 2, 3, 4, 5, 13, 14, 15, 16, 17, 18, 19, 20, 21, 22, 23, 24, 25, 26, 6, 7, 8, 9, 10, 11, 12, 27, 28] rfl
  have hD : va_D A (wCv K h0 a0 o0 ++ wSc K h1 (fun _ => h4) o1 ++ wNl K h2 a2 o2 ++ wGr K h3 a3 o3 ++ wSB K h4 a4_5 q_1) := hD.sub [0, 1, 2, 3, 4, 5, 13, 14, 15, 16, 17, 18, 19, 20, 21, 22, 23, 24, 25, 26, 6, 7, 8, 9, 10, 11, 12, 27, 28] (by decide +kernel) rfl
  refine W.widen (k := (gC (phSB os) (phSB q_1))) (n := (gS (phSB os) (phSB q_1))) (gC_add hg hg2_3) (gS_add hg hg2_3) ?_
  have hg : phSB os ≤ phSB q_1 := Nat.le_trans hg hg2_3
  exact bCv_writeTo_5 C ih _ _ _ _ _ _ h hg hP hD hS (lv_sub hl [0, 1, 2, 3] rfl)
theorem iCv_writeTo {p : Program} {l : Launch} {e : Env} {s : State} {m : MethodId} {below : List Frame} {meth : Method} {c : Code} {A : Nat → Prop} {D : va_G} {K : Nat → ClassId} {h0 : Nat} {a0 : Nat → Nat} {h1 : Nat} {h2 : Nat} {a2 : Nat → Nat} {h3 : Nat} {a3 : Nat → Nat} {h4 : Nat} {os : cf_O} {AR : Array Value} (C : (dc_C p s m AR meth c cCv_writeTo 7 (Option.none : Option Jvm.ClassFile.FieldType) yCv_writeTo ∧ cf_E D K A s s.heap ∧ ∀ q, s.heap.size ≤ q → A q)) : ∀ n, IhCv_writeTo p l e s m below meth c A D K h0 a0 h1 h2 a2 h3 a3 h4 os AR n := by
  intro n
  induction n with
  | zero => exact ⟨(fun _ _ _ _ _ _ r h => by cases (show none = some r from h)), (fun _ _ _ _ _ _ _ _ r h => by cases (show none = some r from h)), (fun _ _ _ _ _ _ r h => by cases (show none = some r from h))⟩
  | succ n ih => exact ⟨fun x0 x1 x2 x3 x4 x5 r h _ _ _ _ hg hP hD hS hl => bCv_writeTo_8 C ih x0 x1 x2 x3 x4 x5 r h hg hP hD hS hl, fun x0 x1 x2 x3 x4 x5 x6 x7 r h _ _ _ _ hg hP hD hS hl => bCv_writeTo_41 C ih x0 x1 x2 x3 x4 x5 x6 x7 r h hg hP hD hS hl, fun x0 x1 x2 x3 x4 x5 r h _ _ _ _ hg hP hD hS hl => bCv_writeTo_114 C ih x0 x1 x2 x3 x4 x5 r h hg hP hD hS hl⟩
set_option maxRecDepth 100000 in
theorem mCv_writeTo (l : Launch) (D : va_G) (K : Nat → ClassId) (sz : Nat) (h0 : Nat) (a0 : Nat → Nat) (h1 : Nat) (h2 : Nat) (a2 : Nat → Nat) (h3 : Nat) (a3 : Nat → Nat) (h4 : Nat) (a4 : Nat → Nat) (o0 : cf_O) (o1 : cf_O) (o2 : cf_O) (o3 : cf_O) (o4 : cf_O) (r : cf_O × cf_O) (h : fCv_writeTo o0 o1 o2 o3 o4 = some r) : Met l yCv_writeTo (Cond.code yCv_writeTo cCv_writeTo 7 (Option.none : Option Jvm.ClassFile.FieldType) :: cfB) ({ frames := 9, cells := (gC (phSB o4) (phSB r.2)), slots := (gS (phSB o4) (phSB r.2)), locals := 238 }) (va_Pc [.ref h0, .ref h1, .ref h2, .ref h3] (cf_Pre D K sz (wCv K h0 a0 o0 ++ wSc K h1 (fun _ => h4) o1 ++ wNl K h2 a2 o2 ++ wGr K h3 a3 o3 ++ wSB K h4 a4 o4))) (va_Qv (fun (_ : Nat → Nat) => True) (fun (u : Nat → Nat) t => cf_At D (va_A (wCv K h0 a0 o0 ++ wSc K h1 (fun _ => h4) o1 ++ wNl K h2 a2 o2 ++ wGr K h3 a3 o3 ++ wSB K h4 a4 o4) sz) (wCv K h0 a0 o0 ++ wSc K h1 (fun _ => h4) r.1 ++ wNl K h2 a2 o2 ++ wGr K h3 a3 o3 ++ wSB K h4 u r.2) t) (va_A (wCv K h0 a0 o0 ++ wSc K h1 (fun _ => h4) o1 ++ wNl K h2 a2 o2 ++ wGr K h3 a3 o3 ++ wSB K h4 a4 o4) sz)) (gC (phSB o4) (phSB r.2)) (gS (phSB o4) (phSB r.2)) (va_A (wCv K h0 a0 o0 ++ wSc K h1 (fun _ => h4) o1 ++ wNl K h2 a2 o2 ++ wGr K h3 a3 o3 ++ wSB K h4 a4 o4) sz) := by
  refine cf_ofW (y := yCv_writeTo) (As := [.ref h0, .ref h1, .ref h2, .ref h3]) (WS := wCv K h0 a0 o0 ++ wSc K h1 (fun _ => h4) o1 ++ wNl K h2 a2 o2 ++ wGr K h3 a3 o3 ++ wSB K h4 a4 o4) (maxL := 7) (fun A => (va_Qv (fun (_ : Nat → Nat) => True) (fun (u : Nat → Nat) t => cf_At D A (wCv K h0 a0 o0 ++ wSc K h1 (fun _ => h4) r.1 ++ wNl K h2 a2 o2 ++ wGr K h3 a3 o3 ++ wSB K h4 u r.2) t) A)) (by decide) (Nat.le_of_ble_eq_true rfl) ?_
  intro p e s m below meth c A ls En hsz hA hP hD hE hS hl
  have C : (dc_C p s m (([.ref h0, .ref h1, .ref h2, .ref h3] : List Value).toArray) meth c cCv_writeTo 7 (Option.none : Option Jvm.ClassFile.FieldType) yCv_writeTo ∧ cf_E D K A s s.heap ∧ ∀ q, s.heap.size ≤ q → A q) := ⟨En, hE, hA⟩
  refine W.widen (k := gC (phSB o4) (phSB o4)) (n := gS (phSB o4) (phSB o4)) (Nat.zero_le _) (Nat.zero_le _) ?_
  exact bCv_writeTo_0 C (iCv_writeTo C cfFU) o0 o1 o2 o3 o4 r h (Nat.le_refl _) hP hD hS hl
set_option maxRecDepth 100000 in
theorem nCu_add_46 (v1 : Int64) (v3 : Int64) (o0 : cf_O) (r : cf_O) (h : fCu_add_46 v1 v3 o0 = some r) : phCu o0 ≤ phCu r := by
  have hm : phCu o0 ≤ phCu o0 := Nat.le_refl _
  obtain ⟨hi_1, h⟩ := op_n h
  obtain ⟨o_2, eo_2, h⟩ := op_kx h
  have hm : phCu o0 ≤ phCu o_2 := by rw [eo_2]; exact hm
  obtain ⟨hi_4, h⟩ := op_n h
  obtain ⟨o_5, eo_5, h⟩ := op_kx h
  have hm : phCu o0 ≤ phCu o_5 := by rw [eo_5]; exact hm
  obtain ⟨x_7, ex_7, h⟩ := op_kx h
  obtain ⟨o_8, eo_8, h⟩ := op_kx h
  have hm : phCu o0 ≤ phCu o_8 := by rw [eo_8]; exact hm
  obtain rfl := Option.some.inj h
  exact hm
set_option maxRecDepth 100000 in
theorem nCu_add_29 (v1 : Int64) (v3 : Int64) (o0 : cf_O) (r : cf_O) (h : fCu_add_29 v1 v3 o0 = some r) : phCu o0 ≤ phCu r := by
  have hm : phCu o0 ≤ phCu o0 := Nat.le_refl _
  obtain ⟨x_1, ex_1, h⟩ := op_kx h
  obtain ⟨hc_2, h⟩ := op_n h
  obtain ⟨o_3, eo_3, h⟩ := op_kx h
  have hf_4 : phCu o_3 + (o0.1 5).toNatClampNeg = phCu o0 + x_1.toNatClampNeg := by rw [eo_3]; show ((o0.1 4).toNatClampNeg + x_1.toNatClampNeg) + (o0.1 5).toNatClampNeg = ((o0.1 4).toNatClampNeg + (o0.1 5).toNatClampNeg) + x_1.toNatClampNeg; omega
  have hc_5 := Nat.not_lt.mp (fun z => hc_2 ((Or.inr (Or.inr (Or.inl z)))))
  have hm : phCu o0 ≤ phCu o_3 := Nat.le_trans hm (by omega)
  exact Nat.le_trans hm (nCu_add_46 _ _ _ _ h)
set_option maxRecDepth 100000 in
theorem nCu_add_0 (v1 : Int64) (v3 : Int64) (o0 : cf_O) (r : cf_O) (h : fCu_add_0 v1 v3 o0 = some r) : phCu o0 ≤ phCu r := by
  have hm : phCu o0 ≤ phCu o0 := Nat.le_refl _
  obtain ⟨hn_1, h⟩ := op_n h
  obtain ⟨x_2, ex_2, h⟩ := op_kx h
  rcases (Classical.em ((o0.1 3) = x_2)).symm with c_3 | c_3
  · have h := op_f c_3 h
    exact Nat.le_trans hm (nCu_add_46 _ _ _ _ h)
  · have h := op_t c_3 h
    obtain ⟨x_4, ex_4, h⟩ := op_kx h
    obtain ⟨hc_5, h⟩ := op_n h
    obtain ⟨o_6, eo_6, h⟩ := op_kx h
    have hf_7 : phCu o_6 + (o0.1 4).toNatClampNeg = phCu o0 + x_4.toNatClampNeg := by rw [eo_6]; show (x_4.toNatClampNeg + (o0.1 5).toNatClampNeg) + (o0.1 4).toNatClampNeg = ((o0.1 4).toNatClampNeg + (o0.1 5).toNatClampNeg) + x_4.toNatClampNeg; omega
    have hc_8 := Nat.not_lt.mp (fun z => hc_5 ((Or.inr (Or.inr (Or.inl z)))))
    have hm : phCu o0 ≤ phCu o_6 := Nat.le_trans hm (by omega)
    exact Nat.le_trans hm (nCu_add_29 _ _ _ _ h)
theorem nCu_add (v1 : Int64) (v3 : Int64) (o0 : cf_O) (r : cf_O) (h : fCu_add v1 v3 o0 = some r) : phCu o0 ≤ phCu r := nCu_add_0  v1 v3 o0 r h
set_option maxHeartbeats 4000000 in
set_option maxRecDepth 100000 in
theorem bCu_add_46 {p : Program} {l : Launch} {e : Env} {s : State} {m : MethodId} {below : List Frame} {meth : Method} {c : Code} {A : Nat → Prop} {D : va_G} {K : Nat → ClassId} {h0 : Nat} {os : cf_O} {AR : Array Value} (C : (dc_C p s m AR meth c cCu_add 5 (Option.none : Option Jvm.ClassFile.FieldType) yCu_add ∧ cf_E D K A s s.heap ∧ ∀ q, s.heap.size ≤ q → A q)) (v1 : Int64) (v3 : Int64) (o0 : cf_O) (r : cf_O) (h : fCu_add_46 v1 v3 o0 = some r) {a0 : Nat → Nat} {H : Heap} {locs : List Loc} {ls : Array Slot} (hg : phCu os ≤ phCu o0) (hP : va_P D vwCl (wCu K h0 a0 o0) H) (hD : va_D A (wCu K h0 a0 o0)) (hS : va_S A s.heap H locs) (hl : lv_has ls 5 [(0, .ref h0), (1, .long v1), (3, .long v3)]) : W p l e ({ frames := 2, cells := (gC (phCu os) (phCu r)), slots := (gS (phCu os) (phCu r)), locals := 102 }) s m AR below meth c H locs (gC (phCu os) (phCu o0)) (gS (phCu os) (phCu o0)) (MQ below (va_Qv (fun (_ : Nat → Nat) => True) (fun (u : Nat → Nat) t => cf_At D A (wCu K h0 u r) t) A) AR s (gC (phCu os) (phCu r)) (gS (phCu os) (phCu r)) A) (F0 m 46 ls []) := by
  obtain ⟨⟨hx, hb, hr, hts, hown, hlocks, hin, hml⟩, hE, hA⟩ := id C
  have hK := hE.k
  refine lv_aload_n hx hb dCu_add_46 rfl (lv_at hl 0 rfl) ?_
  refine va_get (D := D) (ci := 5) (v := .ref (a0 4)) (C := RCu) (T := TCu) (N := 6) hx hb hts inCu hown hK hP 0 rfl rfl 4 (by decide) (hts _ wv_270) (fun _ h9 => h9) rfl dCu_add_47 ?_
  refine lv_aload_n hx hb dCu_add_50 rfl (lv_at hl 0 rfl) ?_
  refine va_get (D := D) (ci := 5) (v := .int (o0.1 3)) (C := RCu) (T := TCu) (N := 6) hx hb hts inCu hown hK hP 0 rfl rfl 3 (by decide) (hts _ wv_269) (fun _ h9 => h9) rfl dCu_add_51 ?_
  refine lv_lload_n hx hb dCu_add_54 rfl (lv_at hl 1 rfl) ?_
  obtain ⟨hi_1, h⟩ := op_n h
  refine va_last (D := D) hx hb hK hP hD hS 3 1 rfl rfl hi_1 dCu_add_55 (fun H locs hP hD hS => ?_)
  have hP : va_P D vwCl (wCu K h0 a0 (yp o0 4 (o0.1 3).toNatClampNeg v1)) H := hP
  have hD : va_D A (wCu K h0 a0 (yp o0 4 (o0.1 3).toNatClampNeg v1)) := hD
  obtain ⟨o_2, eo_2, h⟩ := op_kx h
  rw [← eo_2] at hP hD
  have hf_3 : phCu o_2 = phCu o0 := by rw [eo_2]; rfl
  refine W.widen (k := (gC (phCu os) (phCu o_2))) (n := (gS (phCu os) (phCu o_2))) (by rw [hf_3]; exact Nat.le_refl _) (by rw [hf_3]; exact Nat.le_refl _) ?_
  have hg : phCu os ≤ phCu o_2 := by rw [hf_3]; exact hg
  refine lv_aload_n hx hb dCu_add_56 rfl (lv_at hl 0 rfl) ?_
  refine va_get (D := D) (ci := 5) (v := .ref (a0 5)) (C := RCu) (T := TCu) (N := 6) hx hb hts inCu hown hK hP 0 rfl rfl 5 (by decide) (hts _ wv_271) (fun _ h9 => h9) rfl dCu_add_57 ?_
  refine lv_aload_n hx hb dCu_add_60 rfl (lv_at hl 0 rfl) ?_
  refine va_get (D := D) (ci := 5) (v := .int (o_2.1 3)) (C := RCu) (T := TCu) (N := 6) hx hb hts inCu hown hK hP 0 rfl rfl 3 (by decide) (hts _ wv_269) (fun _ h9 => h9) rfl dCu_add_61 ?_
  refine lv_lload_n hx hb dCu_add_64 rfl (lv_at hl 2 rfl) ?_
  obtain ⟨hi_4, h⟩ := op_n h
  refine va_last (D := D) hx hb hK hP hD hS 4 1 rfl rfl hi_4 dCu_add_65 (fun H locs hP hD hS => ?_)
  have hP : va_P D vwCl (wCu K h0 a0 (yp o_2 5 (o_2.1 3).toNatClampNeg v3)) H := hP
  have hD : va_D A (wCu K h0 a0 (yp o_2 5 (o_2.1 3).toNatClampNeg v3)) := hD
  obtain ⟨o_5, eo_5, h⟩ := op_kx h
  rw [← eo_5] at hP hD
  have hf_6 : phCu o_5 = phCu o_2 := by rw [eo_5]; rfl
  refine W.widen (k := (gC (phCu os) (phCu o_5))) (n := (gS (phCu os) (phCu o_5))) (by rw [hf_6]; exact Nat.le_refl _) (by rw [hf_6]; exact Nat.le_refl _) ?_
  have hg : phCu os ≤ phCu o_5 := by rw [hf_6]; exact hg
  refine lv_aload_n hx hb dCu_add_66 rfl (lv_at hl 0 rfl) ?_
  refine lv_dup hx hb dCu_add_67 rfl ?_
  refine va_get (D := D) (ci := 5) (v := .int (o_5.1 3)) (C := RCu) (T := TCu) (N := 6) hx hb hts inCu hown hK hP 0 rfl rfl 3 (by decide) (hts _ wv_269) (fun _ h9 => h9) rfl dCu_add_68 ?_
  refine lv_iconst (v := 1) hx hb dCu_add_71 (by decide) ?_
  refine lv_iadd hx hb dCu_add_72 ?_
  refine lv_topi (fun x_7 ex_7 => ?_)
  have h := op_ks ex_7 h
  refine va_put (D := D) (ci := 5) (v := .int x_7) (ty := .int) (C := RCu) (T := TCu) (N := 6) hx hb hts inCu tyCu tyokCu nmCu hown hK hP hD hS 0 rfl rfl 3 (by decide) (hts _ wv_269) (fun _ h9 => h9) rfl (by decide +kernel) rfl rfl (Nat.le_of_ble_eq_true rfl) dCu_add_73 (fun H locs hP hD hS => ?_)
  have hP : va_P D vwCl (wCu K h0 a0 (fp o_5 3 x_7)) H := hP
  have hD : va_D A (wCu K h0 a0 (fp o_5 3 x_7)) := hD
  obtain ⟨o_8, eo_8, h⟩ := op_kx h
  rw [← eo_8] at hP hD
  have hf_9 : phCu o_8 = phCu o_5 := by rw [eo_8]; rfl
  refine W.widen (k := (gC (phCu os) (phCu o_8))) (n := (gS (phCu os) (phCu o_8))) (by rw [hf_9]; exact Nat.le_refl _) (by rw [hf_9]; exact Nat.le_refl _) ?_
  have hg : phCu os ≤ phCu o_8 := by rw [hf_9]; exact hg
  obtain rfl := Option.some.inj h
  exact dc_vretG a0 hx hb hr hlocks hP hD hS dCu_add_76
set_option maxHeartbeats 4000000 in
set_option maxRecDepth 100000 in
theorem bCu_add_29 {p : Program} {l : Launch} {e : Env} {s : State} {m : MethodId} {below : List Frame} {meth : Method} {c : Code} {A : Nat → Prop} {D : va_G} {K : Nat → ClassId} {h0 : Nat} {os : cf_O} {AR : Array Value} (C : (dc_C p s m AR meth c cCu_add 5 (Option.none : Option Jvm.ClassFile.FieldType) yCu_add ∧ cf_E D K A s s.heap ∧ ∀ q, s.heap.size ≤ q → A q)) (v1 : Int64) (v3 : Int64) (o0 : cf_O) (r : cf_O) (h : fCu_add_29 v1 v3 o0 = some r) {a0 : Nat → Nat} {H : Heap} {locs : List Loc} {ls : Array Slot} (hg : phCu os ≤ phCu o0) (hP : va_P D vwCl (wCu K h0 a0 o0) H) (hD : va_D A (wCu K h0 a0 o0)) (hS : va_S A s.heap H locs) (hl : lv_has ls 5 [(0, .ref h0), (1, .long v1), (3, .long v3)]) : W p l e ({ frames := 2, cells := (gC (phCu os) (phCu r)), slots := (gS (phCu os) (phCu r)), locals := 102 }) s m AR below meth c H locs (gC (phCu os) (phCu o0)) (gS (phCu os) (phCu o0)) (MQ below (va_Qv (fun (_ : Nat → Nat) => True) (fun (u : Nat → Nat) t => cf_At D A (wCu K h0 u r) t) A) AR s (gC (phCu os) (phCu r)) (gS (phCu os) (phCu r)) A) (F0 m 29 ls []) := by
  obtain ⟨⟨hx, hb, hr, hts, hown, hlocks, hin, hml⟩, hE, hA⟩ := id C
  have hK := hE.k
  refine lv_aload_n hx hb dCu_add_29 rfl (lv_at hl 0 rfl) ?_
  refine lv_aload_n hx hb dCu_add_30 rfl (lv_at hl 0 rfl) ?_
  refine va_get (D := D) (ci := 5) (v := .ref (a0 5)) (C := RCu) (T := TCu) (N := 6) hx hb hts inCu hown hK hP 0 rfl rfl 5 (by decide) (hts _ wv_271) (fun _ h9 => h9) rfl dCu_add_31 ?_
  refine lv_iconst (v := 2) hx hb dCu_add_34 (by decide) ?_
  refine lv_aload_n hx hb dCu_add_35 rfl (lv_at hl 0 rfl) ?_
  refine va_get (D := D) (ci := 5) (v := .int (o0.1 3)) (C := RCu) (T := TCu) (N := 6) hx hb hts inCu hown hK hP 0 rfl rfl 3 (by decide) (hts _ wv_269) (fun _ h9 => h9) rfl dCu_add_36 ?_
  refine lv_imul hx hb dCu_add_39 ?_
  refine lv_topi (fun x_1 ex_1 => ?_)
  have h := op_ks ex_1 h
  obtain ⟨hc_2, h⟩ := op_n h
  obtain ⟨o_3, eo_3, h⟩ := op_kx h
  have hf_4 : phCu o_3 + (o0.1 5).toNatClampNeg = phCu o0 + x_1.toNatClampNeg := by rw [eo_3]; show ((o0.1 4).toNatClampNeg + x_1.toNatClampNeg) + (o0.1 5).toNatClampNeg = ((o0.1 4).toNatClampNeg + (o0.1 5).toNatClampNeg) + x_1.toNatClampNeg; omega
  have hc_5 := Nat.not_lt.mp (fun z => hc_2 ((Or.inr (Or.inr (Or.inl z)))))
  have hc_6 := Nat.not_lt.mp (fun z => hc_2 ((Or.inr (Or.inr (Or.inr (Or.inl z))))))
  have hgr_7 : phCu o_3 ≤ phCu r := nCu_add_46 _ _ _ _ h
  refine cf_callr (wc := [((a0 5), .inl (K 1, (o0.1 5).toNatClampNeg, .inr (.inl (o0.2.2 5))))]) (wr := [(h0, .inr (5, [.int (o0.1 0), .ref (a0 1), .ref (a0 2), .int (o0.1 3), .ref (a0 4), .ref (a0 5)])), ((a0 1), .inl (K 0, 209, .inl (o0.2.1 1))), ((a0 2), .inl (K 0, 210, .inl (o0.2.1 2))), ((a0 4), .inl (K 1, (o0.1 4).toNatClampNeg, .inr (.inl (o0.2.2 4))))]) (va_runS (As := [.ref (a0 5), .int x_1]) (rest := [.ref h0]) ⟨hx, hb, hml, hown, hts⟩ (mcopy_long l D K _ (a0 5) (o0.1 5) x_1 (o0.2.2 5) (fun z => hc_2 (Or.inl z)) (fun z => hc_2 ((Or.inr (Or.inl z)))) hc_5 (Nat.not_lt.mp (fun z => hc_2 ((Or.inr (Or.inr (Or.inr (Or.inr (z))))))))) (va_cwS 2 hts (cf_GS wv_1282 wv_1283 wv_181 wv_1284) rfl rfl rfl (by decide +kernel) ⟨Nat.le_of_ble_eq_true rfl, Nat.le_of_ble_eq_true rfl⟩) (cf_preS (wc := [((a0 5), .inl (K 1, (o0.1 5).toNatClampNeg, .inr (.inl (o0.2.2 5))))]) hE hP hD hS hA [4] rfl (by decide +kernel)) rfl rfl hl.1 rfl (lv_room (Nat.le_of_ble_eq_true rfl)) dCu_add_40 ⟨Nat.le_trans (gC_new hg (show phCu o0 + 16 ≤ phCu o_3 by omega)) (gC_le hgr_7), Nat.le_trans (gS_new hg (show 2 * phCu o0 + x_1.toNatClampNeg ≤ 2 * phCu o_3 by omega)) (gS_le hgr_7)⟩) hP hD hS hA [4] [0, 1, 2, 3] rfl rfl (by decide +kernel) (by decide +kernel) (fun _ q_8 H locs _ hP hD hS => ?_)
  refine W.widen (k := (gC (phCu os) (phCu o_3))) (n := (gS (phCu os) (phCu o_3))) (gC_new hg (show phCu o0 + 16 ≤ phCu o_3 by omega)) (gS_new hg (show 2 * phCu o0 + x_1.toNatClampNeg ≤ 2 * phCu o_3 by omega)) ?_
  refine va_put (D := D) (ci := 5) (v := .ref q_8) (ty := (.array .long)) (C := RCu) (T := TCu) (N := 6) hx hb hts inCu tyCu tyokCu nmCu hown hK hP hD hS 0 rfl rfl 5 (by decide) (hts _ wv_271) (fun _ h9 => h9) rfl (by decide +kernel) rfl rfl (Nat.le_of_ble_eq_true rfl) dCu_add_43 (fun H locs hP hD hS => ?_)
  have hP : va_P D vwCl (wCu K h0 (fun j => bif Nat.beq j 5 then q_8 else a0 j) (gp o0 5 x_1)) H := hP.sub [0, 1, 2, 3, 5] rfl
  have hD : va_D A (wCu K h0 (fun j => bif Nat.beq j 5 then q_8 else a0 j) (gp o0 5 x_1)) := hD.sub [0, 1, 2, 3, 5] (by decide +kernel) rfl
  obtain ⟨a0_9, ea0_9⟩ : ∃ a9 : Nat → Nat, a9 = (fun j => bif Nat.beq j 5 then q_8 else a0 j) := ⟨_, rfl⟩
  rw [← ea0_9, ← eo_3] at hP hD
  have hg : phCu os ≤ phCu o_3 := by omega
  exact bCu_add_46 C _ _ _ _ h hg hP hD hS (lv_sub hl [0, 1, 2] rfl)
set_option maxHeartbeats 4000000 in
set_option maxRecDepth 100000 in
theorem bCu_add_0 {p : Program} {l : Launch} {e : Env} {s : State} {m : MethodId} {below : List Frame} {meth : Method} {c : Code} {A : Nat → Prop} {D : va_G} {K : Nat → ClassId} {h0 : Nat} {os : cf_O} {AR : Array Value} (C : (dc_C p s m AR meth c cCu_add 5 (Option.none : Option Jvm.ClassFile.FieldType) yCu_add ∧ cf_E D K A s s.heap ∧ ∀ q, s.heap.size ≤ q → A q)) (v1 : Int64) (v3 : Int64) (o0 : cf_O) (r : cf_O) (h : fCu_add_0 v1 v3 o0 = some r) {a0 : Nat → Nat} {H : Heap} {locs : List Loc} {ls : Array Slot} (hg : phCu os ≤ phCu o0) (hP : va_P D vwCl (wCu K h0 a0 o0) H) (hD : va_D A (wCu K h0 a0 o0)) (hS : va_S A s.heap H locs) (hl : lv_has ls 5 [(0, .ref h0), (1, .long v1), (3, .long v3)]) : W p l e ({ frames := 2, cells := (gC (phCu os) (phCu r)), slots := (gS (phCu os) (phCu r)), locals := 102 }) s m AR below meth c H locs (gC (phCu os) (phCu o0)) (gS (phCu os) (phCu o0)) (MQ below (va_Qv (fun (_ : Nat → Nat) => True) (fun (u : Nat → Nat) t => cf_At D A (wCu K h0 u r) t) A) AR s (gC (phCu os) (phCu r)) (gS (phCu os) (phCu r)) A) (F0 m 0 ls []) := by
  obtain ⟨⟨hx, hb, hr, hts, hown, hlocks, hin, hml⟩, hE, hA⟩ := id C
  have hK := hE.k
  refine lv_aload_n hx hb dCu_add_0 rfl (lv_at hl 0 rfl) ?_
  refine va_get (D := D) (ci := 5) (v := .int (o0.1 3)) (C := RCu) (T := TCu) (N := 6) hx hb hts inCu hown hK hP 0 rfl rfl 3 (by decide) (hts _ wv_269) (fun _ h9 => h9) rfl dCu_add_1 ?_
  refine lv_aload_n hx hb dCu_add_4 rfl (lv_at hl 0 rfl) ?_
  refine va_get (D := D) (ci := 5) (v := .ref (a0 4)) (C := RCu) (T := TCu) (N := 6) hx hb hts inCu hown hK hP 0 rfl rfl 4 (by decide) (hts _ wv_270) (fun _ h9 => h9) rfl dCu_add_5 ?_
  obtain ⟨hn_1, h⟩ := op_n h
  refine va_alen (D := D) (v := o0.1 4) hx hb hK hP 3 1 rfl rfl (g_ofNat hn_1) dCu_add_8 ?_
  refine lv_topi (fun x_2 ex_2 => ?_)
  have h := op_ks ex_2 h
  refine lv_icmp_ne (tgt := 46) hx hb dCu_add_9 (by decide) (fun c_3 => ?_) (fun c_3 => ?_)
  · have h := op_f c_3 h
    exact bCu_add_46 C _ _ _ _ h hg hP hD hS (lv_sub hl [0, 1, 2] rfl)
  · have h := op_t c_3 h
    refine lv_aload_n hx hb dCu_add_12 rfl (lv_at hl 0 rfl) ?_
    refine lv_aload_n hx hb dCu_add_13 rfl (lv_at hl 0 rfl) ?_
    refine va_get (D := D) (ci := 5) (v := .ref (a0 4)) (C := RCu) (T := TCu) (N := 6) hx hb hts inCu hown hK hP 0 rfl rfl 4 (by decide) (hts _ wv_270) (fun _ h9 => h9) rfl dCu_add_14 ?_
    refine lv_iconst (v := 2) hx hb dCu_add_17 (by decide) ?_
    refine lv_aload_n hx hb dCu_add_18 rfl (lv_at hl 0 rfl) ?_
    refine va_get (D := D) (ci := 5) (v := .int (o0.1 3)) (C := RCu) (T := TCu) (N := 6) hx hb hts inCu hown hK hP 0 rfl rfl 3 (by decide) (hts _ wv_269) (fun _ h9 => h9) rfl dCu_add_19 ?_
    refine lv_imul hx hb dCu_add_22 ?_
    refine lv_topi (fun x_4 ex_4 => ?_)
    have h := op_ks ex_4 h
    obtain ⟨hc_5, h⟩ := op_n h
    obtain ⟨o_6, eo_6, h⟩ := op_kx h
    have hf_7 : phCu o_6 + (o0.1 4).toNatClampNeg = phCu o0 + x_4.toNatClampNeg := by rw [eo_6]; show (x_4.toNatClampNeg + (o0.1 5).toNatClampNeg) + (o0.1 4).toNatClampNeg = ((o0.1 4).toNatClampNeg + (o0.1 5).toNatClampNeg) + x_4.toNatClampNeg; omega
    have hc_8 := Nat.not_lt.mp (fun z => hc_5 ((Or.inr (Or.inr (Or.inl z)))))
    have hc_9 := Nat.not_lt.mp (fun z => hc_5 ((Or.inr (Or.inr (Or.inr (Or.inl z))))))
    have hgr_10 : phCu o_6 ≤ phCu r := nCu_add_29 _ _ _ _ h
    refine cf_callr (wc := [((a0 4), .inl (K 1, (o0.1 4).toNatClampNeg, .inr (.inl (o0.2.2 4))))]) (wr := [(h0, .inr (5, [.int (o0.1 0), .ref (a0 1), .ref (a0 2), .int (o0.1 3), .ref (a0 4), .ref (a0 5)])), ((a0 1), .inl (K 0, 209, .inl (o0.2.1 1))), ((a0 2), .inl (K 0, 210, .inl (o0.2.1 2))), ((a0 5), .inl (K 1, (o0.1 5).toNatClampNeg, .inr (.inl (o0.2.2 5))))]) (va_runS (As := [.ref (a0 4), .int x_4]) (rest := [.ref h0]) ⟨hx, hb, hml, hown, hts⟩ (mcopy_long l D K _ (a0 4) (o0.1 4) x_4 (o0.2.2 4) (fun z => hc_5 (Or.inl z)) (fun z => hc_5 ((Or.inr (Or.inl z)))) hc_8 (Nat.not_lt.mp (fun z => hc_5 ((Or.inr (Or.inr (Or.inr (Or.inr (z))))))))) (va_cwS 2 hts (cf_GS wv_1282 wv_1283 wv_181 wv_1284) rfl rfl rfl (by decide +kernel) ⟨Nat.le_of_ble_eq_true rfl, Nat.le_of_ble_eq_true rfl⟩) (cf_preS (wc := [((a0 4), .inl (K 1, (o0.1 4).toNatClampNeg, .inr (.inl (o0.2.2 4))))]) hE hP hD hS hA [3] rfl (by decide +kernel)) rfl rfl hl.1 rfl (lv_room (Nat.le_of_ble_eq_true rfl)) dCu_add_23 ⟨Nat.le_trans (gC_new hg (show phCu o0 + 16 ≤ phCu o_6 by omega)) (gC_le hgr_10), Nat.le_trans (gS_new hg (show 2 * phCu o0 + x_4.toNatClampNeg ≤ 2 * phCu o_6 by omega)) (gS_le hgr_10)⟩) hP hD hS hA [3] [0, 1, 2, 4] rfl rfl (by decide +kernel) (by decide +kernel) (fun _ q_11 H locs _ hP hD hS => ?_)
    refine W.widen (k := (gC (phCu os) (phCu o_6))) (n := (gS (phCu os) (phCu o_6))) (gC_new hg (show phCu o0 + 16 ≤ phCu o_6 by omega)) (gS_new hg (show 2 * phCu o0 + x_4.toNatClampNeg ≤ 2 * phCu o_6 by omega)) ?_
    refine va_put (D := D) (ci := 5) (v := .ref q_11) (ty := (.array .long)) (C := RCu) (T := TCu) (N := 6) hx hb hts inCu tyCu tyokCu nmCu hown hK hP hD hS 0 rfl rfl 4 (by decide) (hts _ wv_270) (fun _ h9 => h9) rfl (by decide +kernel) rfl rfl (Nat.le_of_ble_eq_true rfl) dCu_add_26 (fun H locs hP hD hS => ?_)
    have hP : va_P D vwCl (wCu K h0 (fun j => bif Nat.beq j 4 then q_11 else a0 j) (gp o0 4 x_4)) H := hP.sub [0, 1, 2, 5, 3] rfl
    have hD : va_D A (wCu K h0 (fun j => bif Nat.beq j 4 then q_11 else a0 j) (gp o0 4 x_4)) := hD.sub [0, 1, 2, 5, 3] (by decide +kernel) rfl
    obtain ⟨a0_12, ea0_12⟩ : ∃ a9 : Nat → Nat, a9 = (fun j => bif Nat.beq j 4 then q_11 else a0 j) := ⟨_, rfl⟩
    rw [← ea0_12, ← eo_6] at hP hD
    have hg : phCu os ≤ phCu o_6 := by omega
    exact bCu_add_29 C _ _ _ _ h hg hP hD hS (lv_sub hl [0, 1, 2] rfl)
set_option maxRecDepth 100000 in
theorem mCu_add (l : Launch) (D : va_G) (K : Nat → ClassId) (sz : Nat) (v1 : Int64) (v3 : Int64) (h0 : Nat) (a0 : Nat → Nat) (o0 : cf_O) (r : cf_O) (h : fCu_add v1 v3 o0 = some r) : Met l yCu_add (Cond.code yCu_add cCu_add 5 (Option.none : Option Jvm.ClassFile.FieldType) :: cfB) ({ frames := 2, cells := (gC (phCu o0) (phCu r)), slots := (gS (phCu o0) (phCu r)), locals := 102 }) (va_Pc [.ref h0, .long v1, .long v3] (cf_Pre D K sz (wCu K h0 a0 o0))) (va_Qv (fun (_ : Nat → Nat) => True) (fun (u : Nat → Nat) t => cf_At D (va_A (wCu K h0 a0 o0) sz) (wCu K h0 u r) t) (va_A (wCu K h0 a0 o0) sz)) (gC (phCu o0) (phCu r)) (gS (phCu o0) (phCu r)) (va_A (wCu K h0 a0 o0) sz) := by
  refine cf_ofW (y := yCu_add) (As := [.ref h0, .long v1, .long v3]) (WS := wCu K h0 a0 o0) (maxL := 5) (fun A => (va_Qv (fun (_ : Nat → Nat) => True) (fun (u : Nat → Nat) t => cf_At D A (wCu K h0 u r) t) A)) (by decide) (Nat.le_of_ble_eq_true rfl) ?_
  intro p e s m below meth c A ls En hsz hA hP hD hE hS hl
  have C : (dc_C p s m (([.ref h0, .long v1, .long v3] : List Value).toArray) meth c cCu_add 5 (Option.none : Option Jvm.ClassFile.FieldType) yCu_add ∧ cf_E D K A s s.heap ∧ ∀ q, s.heap.size ≤ q → A q) := ⟨En, hE, hA⟩
  refine W.widen (k := gC (phCu o0) (phCu o0)) (n := gS (phCu o0) (phCu o0)) (Nat.zero_le _) (Nat.zero_le _) ?_
  exact bCu_add_0 C v1 v3 o0 r h (Nat.le_refl _) hP hD hS hl
set_option maxHeartbeats 4000000 in
set_option maxRecDepth 100000 in
theorem bJLong_bitCount_J_0 {p : Program} {l : Launch} {e : Env} {s : State} {m : MethodId} {below : List Frame} {meth : Method} {c : Code} {AR : Array Value} (C : dc_C p s m AR meth c cJLong_bitCount_J 2 (Option.some Jvm.ClassFile.FieldType.int) yJLong_bitCount_J) (v0 : Int64) (r : Int32) (h : fJLong_bitCount_J_0 v0 = some r) {ls : Array Slot} (hl : lv_has ls 2 [(0, .long v0)]) : W p l e ({ frames := 0, cells := 0, slots := 0, locals := 0 }) s m AR below meth c s.heap [] 0 0 (MQ below (cf_Pi (fun x => x = r)) AR s 0 0 (fun _ => False)) (F0 m 0 ls []) := by
  obtain ⟨hx, hb, hr, hts, hown, hlocks, hin, hml⟩ := id C
  refine lv_lload_n hx hb dJLong_bitCount_J_0 rfl (lv_at hl 0 rfl) ?_
  refine lv_lload_n hx hb dJLong_bitCount_J_1 rfl (lv_at hl 0 rfl) ?_
  refine lv_iconst (v := 1) hx hb dJLong_bitCount_J_2 (by decide) ?_
  refine lv_lushr hx hb dJLong_bitCount_J_3 rfl ?_
  refine lv_topl (fun x_1 ex_1 => ?_)
  have h := op_ks ex_1 h
  refine lv_ldc2 (v := 6148914691236517205) hx hb hown (hts _ wv_1308) dJLong_bitCount_J_4 ?_
  refine lv_land hx hb dJLong_bitCount_J_7 ?_
  refine lv_topl (fun x_2 ex_2 => ?_)
  have h := op_ks ex_2 h
  refine lv_lsub hx hb dJLong_bitCount_J_8 ?_
  refine lv_topl (fun x_3 ex_3 => ?_)
  have h := op_ks ex_3 h
  refine lv_lstore_n (lv' := [(0, .long x_3)]) hx hb dJLong_bitCount_J_9 rfl hl (by decide) rfl (fun ls hl => ?_)
  refine lv_lload_n hx hb dJLong_bitCount_J_10 rfl (lv_at hl 0 rfl) ?_
  refine lv_ldc2 (v := 3689348814741910323) hx hb hown (hts _ wv_1309) dJLong_bitCount_J_11 ?_
  refine lv_land hx hb dJLong_bitCount_J_14 ?_
  refine lv_topl (fun x_4 ex_4 => ?_)
  have h := op_ks ex_4 h
  refine lv_lload_n hx hb dJLong_bitCount_J_15 rfl (lv_at hl 0 rfl) ?_
  refine lv_iconst (v := 2) hx hb dJLong_bitCount_J_16 (by decide) ?_
  refine lv_lushr hx hb dJLong_bitCount_J_17 rfl ?_
  refine lv_topl (fun x_5 ex_5 => ?_)
  have h := op_ks ex_5 h
  refine lv_ldc2 (v := 3689348814741910323) hx hb hown (hts _ wv_1309) dJLong_bitCount_J_18 ?_
  refine lv_land hx hb dJLong_bitCount_J_21 ?_
  refine lv_topl (fun x_6 ex_6 => ?_)
  have h := op_ks ex_6 h
  refine lv_ladd hx hb dJLong_bitCount_J_22 ?_
  refine lv_topl (fun x_7 ex_7 => ?_)
  have h := op_ks ex_7 h
  refine lv_lstore_n (lv' := [(0, .long x_7)]) hx hb dJLong_bitCount_J_23 rfl hl (by decide) rfl (fun ls hl => ?_)
  refine lv_lload_n hx hb dJLong_bitCount_J_24 rfl (lv_at hl 0 rfl) ?_
  refine lv_lload_n hx hb dJLong_bitCount_J_25 rfl (lv_at hl 0 rfl) ?_
  refine lv_iconst (v := 4) hx hb dJLong_bitCount_J_26 (by decide) ?_
  refine lv_lushr hx hb dJLong_bitCount_J_27 rfl ?_
  refine lv_topl (fun x_8 ex_8 => ?_)
  have h := op_ks ex_8 h
  refine lv_ladd hx hb dJLong_bitCount_J_28 ?_
  refine lv_topl (fun x_9 ex_9 => ?_)
  have h := op_ks ex_9 h
  refine lv_ldc2 (v := 1085102592571150095) hx hb hown (hts _ wv_1310) dJLong_bitCount_J_29 ?_
  refine lv_land hx hb dJLong_bitCount_J_32 ?_
  refine lv_topl (fun x_10 ex_10 => ?_)
  have h := op_ks ex_10 h
  refine lv_lstore_n (lv' := [(0, .long x_10)]) hx hb dJLong_bitCount_J_33 rfl hl (by decide) rfl (fun ls hl => ?_)
  refine lv_lload_n hx hb dJLong_bitCount_J_34 rfl (lv_at hl 0 rfl) ?_
  refine lv_lload_n hx hb dJLong_bitCount_J_35 rfl (lv_at hl 0 rfl) ?_
  refine lv_bipush (v := 8) hx hb dJLong_bitCount_J_36 (by decide) ?_
  refine lv_lushr hx hb dJLong_bitCount_J_38 rfl ?_
  refine lv_topl (fun x_11 ex_11 => ?_)
  have h := op_ks ex_11 h
  refine lv_ladd hx hb dJLong_bitCount_J_39 ?_
  refine lv_topl (fun x_12 ex_12 => ?_)
  have h := op_ks ex_12 h
  refine lv_lstore_n (lv' := [(0, .long x_12)]) hx hb dJLong_bitCount_J_40 rfl hl (by decide) rfl (fun ls hl => ?_)
  refine lv_lload_n hx hb dJLong_bitCount_J_41 rfl (lv_at hl 0 rfl) ?_
  refine lv_lload_n hx hb dJLong_bitCount_J_42 rfl (lv_at hl 0 rfl) ?_
  refine lv_bipush (v := 16) hx hb dJLong_bitCount_J_43 (by decide) ?_
  refine lv_lushr hx hb dJLong_bitCount_J_45 rfl ?_
  refine lv_topl (fun x_13 ex_13 => ?_)
  have h := op_ks ex_13 h
  refine lv_ladd hx hb dJLong_bitCount_J_46 ?_
  refine lv_topl (fun x_14 ex_14 => ?_)
  have h := op_ks ex_14 h
  refine lv_lstore_n (lv' := [(0, .long x_14)]) hx hb dJLong_bitCount_J_47 rfl hl (by decide) rfl (fun ls hl => ?_)
  refine lv_lload_n hx hb dJLong_bitCount_J_48 rfl (lv_at hl 0 rfl) ?_
  refine lv_lload_n hx hb dJLong_bitCount_J_49 rfl (lv_at hl 0 rfl) ?_
  refine lv_bipush (v := 32) hx hb dJLong_bitCount_J_50 (by decide) ?_
  refine lv_lushr hx hb dJLong_bitCount_J_52 rfl ?_
  refine lv_topl (fun x_15 ex_15 => ?_)
  have h := op_ks ex_15 h
  refine lv_ladd hx hb dJLong_bitCount_J_53 ?_
  refine lv_topl (fun x_16 ex_16 => ?_)
  have h := op_ks ex_16 h
  refine lv_lstore_n (lv' := [(0, .long x_16)]) hx hb dJLong_bitCount_J_54 rfl hl (by decide) rfl (fun ls hl => ?_)
  refine lv_lload_n hx hb dJLong_bitCount_J_55 rfl (lv_at hl 0 rfl) ?_
  refine lv_l2i hx hb dJLong_bitCount_J_56 rfl ?_
  refine lv_topi (fun x_17 ex_17 => ?_)
  have h := op_ks ex_17 h
  refine lv_bipush (v := 127) hx hb dJLong_bitCount_J_57 (by decide) ?_
  refine lv_iand hx hb dJLong_bitCount_J_59 ?_
  refine lv_topi (fun x_18 ex_18 => ?_)
  have h := op_ks ex_18 h
  obtain rfl := Option.some.inj h
  exact W.iret hx hb hr (fun t ht hW => ⟨_, rfl, rfl, ht⟩) cf_pnil dJLong_bitCount_J_60 hlocks
theorem mJLong_bitCount_J (l : Launch) (v0 : Int64) (r : Int32) (h : fJLong_bitCount_J v0 = some r) : Met l yJLong_bitCount_J (Cond.code yJLong_bitCount_J cJLong_bitCount_J 2 (Option.some Jvm.ClassFile.FieldType.int) :: cfB) ({ frames := 0, cells := 0, slots := 0, locals := 0 }) (fun v _ => v = ([.long v0] : List Value).toArray) (cf_Pi (fun x => x = r)) 0 0 (fun _ => False) := by
  refine cf_ofP (y := yJLong_bitCount_J) (As := [.long v0]) (maxL := 2) (cf_Pi (fun x => x = r)) (by decide) (Nat.le_of_ble_eq_true rfl) ?_
  intro p e s m below meth c ls C hl
  exact bJLong_bitCount_J_0 (l := l) C v0 r h hl
def IhCu_join (p : Program) (l : Launch) (e : Env) (s : State) (m : MethodId) (below : List Frame) (meth : Method) (c : Code) (AR : Array Value) (n : Nat) : Prop := (∀ (v4 : Int32) (v5 : Int64) (v7 : Int64) (v9 : Int64) (v11 : Int32) (r : Int64), gCu_join n 0 v4 v5 v7 v9 v11 = some r → ∀ {ls : Array Slot}, lv_has ls 14 [(4, .int v4), (5, .long v5), (7, .long v7), (9, .long v9), (11, .int v11)] → W p l e ({ frames := 1, cells := 0, slots := 0, locals := 34 }) s m AR below meth c s.heap [] 0 0 (MQ below (cf_Pl (fun x => x = r)) AR s 0 0 (fun _ => False)) (F0 m 12 ls []))
set_option maxHeartbeats 4000000 in
set_option maxRecDepth 100000 in
theorem bCu_join_123 {p : Program} {l : Launch} {e : Env} {s : State} {m : MethodId} {below : List Frame} {meth : Method} {c : Code} {AR : Array Value} (C : dc_C p s m AR meth c cCu_join 14 (Option.some Jvm.ClassFile.FieldType.long) yCu_join) {n : Nat} (ih : IhCu_join p l e s m below meth c AR n) (s0 : Int64) (r : Int64) (h : fCu_join_123 (gCu_join n) s0 = some r) {ls : Array Slot} (hl : lv_has ls 14 []) : W p l e ({ frames := 1, cells := 0, slots := 0, locals := 34 }) s m AR below meth c s.heap [] 0 0 (MQ below (cf_Pl (fun x => x = r)) AR s 0 0 (fun _ => False)) (F0 m 123 ls [.long s0]) := by
  obtain ⟨hx, hb, hr, hts, hown, hlocks, hin, hml⟩ := id C
  obtain rfl := Option.some.inj h
  exact W.lret hx hb hr (fun t ht hW => ⟨_, rfl, rfl, ht⟩) cf_pnil dCu_join_123 hlocks
set_option maxHeartbeats 4000000 in
set_option maxRecDepth 100000 in
theorem bCu_join_122 {p : Program} {l : Launch} {e : Env} {s : State} {m : MethodId} {below : List Frame} {meth : Method} {c : Code} {AR : Array Value} (C : dc_C p s m AR meth c cCu_join 14 (Option.some Jvm.ClassFile.FieldType.long) yCu_join) {n : Nat} (ih : IhCu_join p l e s m below meth c AR n) (r : Int64) (h : fCu_join_122 (gCu_join n) = some r) {ls : Array Slot} (hl : lv_has ls 14 []) : W p l e ({ frames := 1, cells := 0, slots := 0, locals := 34 }) s m AR below meth c s.heap [] 0 0 (MQ below (cf_Pl (fun x => x = r)) AR s 0 0 (fun _ => False)) (F0 m 122 ls []) := by
  obtain ⟨hx, hb, hr, hts, hown, hlocks, hin, hml⟩ := id C
  refine lv_lconst (v := 0) hx hb dCu_join_122 (by decide) ?_
  exact bCu_join_123 C ih _ _ h (lv_sub hl [] rfl)
set_option maxHeartbeats 4000000 in
set_option maxRecDepth 100000 in
theorem bCu_join_95 {p : Program} {l : Launch} {e : Env} {s : State} {m : MethodId} {below : List Frame} {meth : Method} {c : Code} {AR : Array Value} (C : dc_C p s m AR meth c cCu_join 14 (Option.some Jvm.ClassFile.FieldType.long) yCu_join) {n : Nat} (ih : IhCu_join p l e s m below meth c AR n) (v4 : Int32) (v5 : Int64) (v9 : Int64) (v11 : Int32) (s0 : Int64) (r : Int64) (h : fCu_join_95 (gCu_join n) v4 v5 v9 v11 s0 = some r) {ls : Array Slot} (hl : lv_has ls 14 [(4, .int v4), (5, .long v5), (9, .long v9), (11, .int v11)]) : W p l e ({ frames := 1, cells := 0, slots := 0, locals := 34 }) s m AR below meth c s.heap [] 0 0 (MQ below (cf_Pl (fun x => x = r)) AR s 0 0 (fun _ => False)) (F0 m 95 ls [.long s0]) := by
  obtain ⟨hx, hb, hr, hts, hown, hlocks, hin, hml⟩ := id C
  refine lv_lstore (lv' := [(7, .long s0), (4, .int v4), (5, .long v5), (9, .long v9), (11, .int v11)]) hx hb dCu_join_95 hl (by decide) rfl (fun ls hl => ?_)
  obtain ⟨x_1, ex_1⟩ : ∃ y : Int32, y = v11 + 1 := ⟨_, rfl⟩
  refine lv_iinc (v := x_1) (lv' := [(11, .int x_1), (7, .long s0), (4, .int v4), (5, .long v5), (9, .long v9)]) hx hb dCu_join_97 hl (k := 4) rfl (by rw [ex_1]; rfl) (by decide) rfl (fun ls hl => ?_)
  have h := op_ks ex_1 h
  refine lv_goto (tgt := 12) hx hb dCu_join_100 (by decide) ?_
  exact (ih) _ _ _ _ _ _ h (lv_sub hl [2, 3, 1, 4, 0] rfl)
set_option maxHeartbeats 4000000 in
set_option maxRecDepth 100000 in
theorem bCu_join_71 {p : Program} {l : Launch} {e : Env} {s : State} {m : MethodId} {below : List Frame} {meth : Method} {c : Code} {AR : Array Value} (C : dc_C p s m AR meth c cCu_join 14 (Option.some Jvm.ClassFile.FieldType.long) yCu_join) {n : Nat} (ih : IhCu_join p l e s m below meth c AR n) (v4 : Int32) (v7 : Int64) (v9 : Int64) (v11 : Int32) (v12 : Int64) (s0 : Int64) (r : Int64) (h : fCu_join_71 (gCu_join n) v4 v7 v9 v11 v12 s0 = some r) {ls : Array Slot} (hl : lv_has ls 14 [(4, .int v4), (7, .long v7), (9, .long v9), (11, .int v11), (12, .long v12)]) : W p l e ({ frames := 1, cells := 0, slots := 0, locals := 34 }) s m AR below meth c s.heap [] 0 0 (MQ below (cf_Pl (fun x => x = r)) AR s 0 0 (fun _ => False)) (F0 m 71 ls [.long s0]) := by
  obtain ⟨hx, hb, hr, hts, hown, hlocks, hin, hml⟩ := id C
  refine lv_lstore (lv' := [(5, .long s0), (4, .int v4), (7, .long v7), (9, .long v9), (11, .int v11), (12, .long v12)]) hx hb dCu_join_71 hl (by decide) rfl (fun ls hl => ?_)
  refine lv_lload hx hb dCu_join_73 (lv_at hl 2 rfl) ?_
  refine lv_ldc2 (v := 255) hx hb hown (hts _ wv_1314) dCu_join_75 ?_
  refine lv_land hx hb dCu_join_78 ?_
  refine lv_topl (fun x_1 ex_1 => ?_)
  have h := op_ks ex_1 h
  refine lv_lload hx hb dCu_join_79 (lv_at hl 5 rfl) ?_
  refine W.lcmp hx hb dCu_join_81 ?_
  refine lv_topi (fun x_2 ex_2 => ?_)
  have h := op_ks ex_2 h
  refine lv_if_ne (tgt := 93) hx hb dCu_join_82 (by decide) (fun c_3 => ?_) (fun c_3 => ?_)
  · have h := op_f c_3 h
    refine lv_lload hx hb dCu_join_93 (lv_at hl 2 rfl) ?_
    exact bCu_join_95 C ih _ _ _ _ _ _ h (lv_sub hl [1, 0, 3, 4] rfl)
  · have h := op_t c_3 h
    refine lv_lload hx hb dCu_join_85 (lv_at hl 2 rfl) ?_
    refine lv_bipush (v := 8) hx hb dCu_join_87 (by decide) ?_
    refine lv_lushr hx hb dCu_join_89 rfl ?_
    refine lv_topl (fun x_4 ex_4 => ?_)
    have h := op_ks ex_4 h
    refine lv_goto (tgt := 95) hx hb dCu_join_90 (by decide) ?_
    exact bCu_join_95 C ih _ _ _ _ _ _ h (lv_sub hl [1, 0, 3, 4] rfl)
set_option maxHeartbeats 4000000 in
set_option maxRecDepth 100000 in
theorem bCu_join_12 {p : Program} {l : Launch} {e : Env} {s : State} {m : MethodId} {below : List Frame} {meth : Method} {c : Code} {AR : Array Value} (C : dc_C p s m AR meth c cCu_join 14 (Option.some Jvm.ClassFile.FieldType.long) yCu_join) {n : Nat} (ih : IhCu_join p l e s m below meth c AR n) (v4 : Int32) (v5 : Int64) (v7 : Int64) (v9 : Int64) (v11 : Int32) (r : Int64) (h : fCu_join_12 (gCu_join n) v4 v5 v7 v9 v11 = some r) {ls : Array Slot} (hl : lv_has ls 14 [(4, .int v4), (5, .long v5), (7, .long v7), (9, .long v9), (11, .int v11)]) : W p l e ({ frames := 1, cells := 0, slots := 0, locals := 34 }) s m AR below meth c s.heap [] 0 0 (MQ below (cf_Pl (fun x => x = r)) AR s 0 0 (fun _ => False)) (F0 m 12 ls []) := by
  obtain ⟨hx, hb, hr, hts, hown, hlocks, hin, hml⟩ := id C
  refine lv_iload hx hb dCu_join_12 (lv_at hl 4 rfl) ?_
  refine lv_iload hx hb dCu_join_14 (lv_at hl 0 rfl) ?_
  refine lv_icmp_ge (tgt := 103) hx hb dCu_join_16 (by decide) (fun c_1 => ?_) (fun c_1 => ?_)
  · have h := op_t c_1 h
    refine lv_lload hx hb dCu_join_103 (lv_at hl 1 rfl) ?_
    refine lv_lconst (v := 0) hx hb dCu_join_105 (by decide) ?_
    refine W.lcmp hx hb dCu_join_106 ?_
    refine lv_topi (fun x_2 ex_2 => ?_)
    have h := op_ks ex_2 h
    refine lv_if_ne (tgt := 122) hx hb dCu_join_107 (by decide) (fun c_3 => ?_) (fun c_3 => ?_)
    · have h := op_f c_3 h
      exact bCu_join_122 C ih _ h (lv_sub hl [] rfl)
    · have h := op_t c_3 h
      refine lv_lload hx hb dCu_join_110 (lv_at hl 2 rfl) ?_
      refine lv_lconst (v := 0) hx hb dCu_join_112 (by decide) ?_
      refine W.lcmp hx hb dCu_join_113 ?_
      refine lv_topi (fun x_4 ex_4 => ?_)
      have h := op_ks ex_4 h
      refine lv_if_ne (tgt := 122) hx hb dCu_join_114 (by decide) (fun c_5 => ?_) (fun c_5 => ?_)
      · have h := op_f c_5 h
        exact bCu_join_122 C ih _ h (lv_sub hl [] rfl)
      · have h := op_t c_5 h
        refine lv_lload hx hb dCu_join_117 (lv_at hl 3 rfl) ?_
        refine lv_goto (tgt := 123) hx hb dCu_join_119 (by decide) ?_
        exact bCu_join_123 C ih _ _ h (lv_sub hl [] rfl)
  · have h := op_f c_1 h
    refine lv_lload hx hb dCu_join_19 (lv_at hl 1 rfl) ?_
    refine lv_ldc2 (v := 255) hx hb hown (hts _ wv_1314) dCu_join_21 ?_
    refine lv_land hx hb dCu_join_24 ?_
    refine lv_topl (fun x_6 ex_6 => ?_)
    have h := op_ks ex_6 h
    refine lv_lload hx hb dCu_join_25 (lv_at hl 2 rfl) ?_
    refine lv_ldc2 (v := 255) hx hb hown (hts _ wv_1314) dCu_join_27 ?_
    refine lv_land hx hb dCu_join_30 ?_
    refine lv_topl (fun x_7 ex_7 => ?_)
    have h := op_ks ex_7 h
    refine va_mmax_long (x := x_6) (y := x_7) hx hb (hml.trans hl.1.symm) hown (hts _ wv_1315) (hts _ wv_1316) (hts _ wv_182) (hts _ wv_1317) (Nat.le_of_ble_eq_true rfl) (Nat.le_of_ble_eq_true rfl) (Nat.le_of_ble_eq_true rfl) (Nat.le_of_ble_eq_true rfl) dCu_join_31 ?_
    refine lv_topl (fun x_8 ex_8 => ?_)
    have h := op_ks ex_8 h
    refine lv_lstore (lv' := [(12, .long x_8), (4, .int v4), (5, .long v5), (7, .long v7), (9, .long v9), (11, .int v11)]) hx hb dCu_join_34 hl (by decide) rfl (fun ls hl => ?_)
    refine lv_lload hx hb dCu_join_36 (lv_at hl 4 rfl) ?_
    refine lv_lload hx hb dCu_join_38 (lv_at hl 0 rfl) ?_
    refine lv_bipush (v := 8) hx hb dCu_join_40 (by decide) ?_
    refine lv_iload hx hb dCu_join_42 (lv_at hl 5 rfl) ?_
    refine lv_imul hx hb dCu_join_44 ?_
    refine lv_topi (fun x_9 ex_9 => ?_)
    have h := op_ks ex_9 h
    refine lv_lshl hx hb dCu_join_45 rfl ?_
    refine lv_topl (fun x_10 ex_10 => ?_)
    have h := op_ks ex_10 h
    refine lv_lor hx hb dCu_join_46 ?_
    refine lv_topl (fun x_11 ex_11 => ?_)
    have h := op_ks ex_11 h
    refine lv_lstore (lv' := [(9, .long x_11), (12, .long x_8), (4, .int v4), (5, .long v5), (7, .long v7), (11, .int v11)]) hx hb dCu_join_47 hl (by decide) rfl (fun ls hl => ?_)
    refine lv_lload hx hb dCu_join_49 (lv_at hl 3 rfl) ?_
    refine lv_ldc2 (v := 255) hx hb hown (hts _ wv_1314) dCu_join_51 ?_
    refine lv_land hx hb dCu_join_54 ?_
    refine lv_topl (fun x_12 ex_12 => ?_)
    have h := op_ks ex_12 h
    refine lv_lload hx hb dCu_join_55 (lv_at hl 1 rfl) ?_
    refine W.lcmp hx hb dCu_join_57 ?_
    refine lv_topi (fun x_13 ex_13 => ?_)
    have h := op_ks ex_13 h
    refine lv_if_ne (tgt := 69) hx hb dCu_join_58 (by decide) (fun c_14 => ?_) (fun c_14 => ?_)
    · have h := op_f c_14 h
      refine lv_lload hx hb dCu_join_69 (lv_at hl 3 rfl) ?_
      exact bCu_join_71 C ih _ _ _ _ _ _ _ h (lv_sub hl [2, 4, 0, 5, 1] rfl)
    · have h := op_t c_14 h
      refine lv_lload hx hb dCu_join_61 (lv_at hl 3 rfl) ?_
      refine lv_bipush (v := 8) hx hb dCu_join_63 (by decide) ?_
      refine lv_lushr hx hb dCu_join_65 rfl ?_
      refine lv_topl (fun x_15 ex_15 => ?_)
      have h := op_ks ex_15 h
      refine lv_goto (tgt := 71) hx hb dCu_join_66 (by decide) ?_
      exact bCu_join_71 C ih _ _ _ _ _ _ _ h (lv_sub hl [2, 4, 0, 5, 1] rfl)
set_option maxHeartbeats 4000000 in
set_option maxRecDepth 100000 in
theorem bCu_join_0 {p : Program} {l : Launch} {e : Env} {s : State} {m : MethodId} {below : List Frame} {meth : Method} {c : Code} {AR : Array Value} (C : dc_C p s m AR meth c cCu_join 14 (Option.some Jvm.ClassFile.FieldType.long) yCu_join) {n : Nat} (ih : IhCu_join p l e s m below meth c AR n) (v0 : Int64) (v2 : Int64) (v4 : Int32) (r : Int64) (h : fCu_join_0 (gCu_join n) v0 v2 v4 = some r) {ls : Array Slot} (hl : lv_has ls 14 [(0, .long v0), (2, .long v2), (4, .int v4)]) : W p l e ({ frames := 1, cells := 0, slots := 0, locals := 34 }) s m AR below meth c s.heap [] 0 0 (MQ below (cf_Pl (fun x => x = r)) AR s 0 0 (fun _ => False)) (F0 m 0 ls []) := by
  obtain ⟨hx, hb, hr, hts, hown, hlocks, hin, hml⟩ := id C
  refine lv_lload_n hx hb dCu_join_0 rfl (lv_at hl 0 rfl) ?_
  refine lv_lstore (lv' := [(5, .long v0), (0, .long v0), (2, .long v2), (4, .int v4)]) hx hb dCu_join_1 hl (by decide) rfl (fun ls hl => ?_)
  refine lv_lload_n hx hb dCu_join_3 rfl (lv_at hl 2 rfl) ?_
  refine lv_lstore (lv' := [(7, .long v2), (5, .long v0), (0, .long v0), (2, .long v2), (4, .int v4)]) hx hb dCu_join_4 hl (by decide) rfl (fun ls hl => ?_)
  refine lv_lconst (v := 0) hx hb dCu_join_6 (by decide) ?_
  refine lv_lstore (lv' := [(9, .long 0), (7, .long v2), (5, .long v0), (0, .long v0), (2, .long v2), (4, .int v4)]) hx hb dCu_join_7 hl (by decide) rfl (fun ls hl => ?_)
  refine lv_iconst (v := 0) hx hb dCu_join_9 (by decide) ?_
  refine lv_istore (lv' := [(11, .int 0), (9, .long 0), (7, .long v2), (5, .long v0), (0, .long v0), (2, .long v2), (4, .int v4)]) hx hb dCu_join_10 hl (by decide) rfl (fun ls hl => ?_)
  exact (ih) _ _ _ _ _ _ h (lv_sub hl [6, 3, 2, 1, 0] rfl)
theorem iCu_join {p : Program} {l : Launch} {e : Env} {s : State} {m : MethodId} {below : List Frame} {meth : Method} {c : Code} {AR : Array Value} (C : dc_C p s m AR meth c cCu_join 14 (Option.some Jvm.ClassFile.FieldType.long) yCu_join) : ∀ n, IhCu_join p l e s m below meth c AR n := by
  intro n
  induction n with
  | zero => exact (fun _ _ _ _ _ r h => by cases (show none = some r from h))
  | succ n ih => exact fun x0 x1 x2 x3 x4 r h _ hl => bCu_join_12 C ih x0 x1 x2 x3 x4 r h hl
theorem mCu_join (l : Launch) (v0 : Int64) (v2 : Int64) (v4 : Int32) (r : Int64) (h : fCu_join v0 v2 v4 = some r) : Met l yCu_join (Cond.code yCu_join cCu_join 14 (Option.some Jvm.ClassFile.FieldType.long) :: cfB) ({ frames := 1, cells := 0, slots := 0, locals := 34 }) (fun v _ => v = ([.long v0, .long v2, .int v4] : List Value).toArray) (cf_Pl (fun x => x = r)) 0 0 (fun _ => False) := by
  refine cf_ofP (y := yCu_join) (As := [.long v0, .long v2, .int v4]) (maxL := 14) (cf_Pl (fun x => x = r)) (by decide) (Nat.le_of_ble_eq_true rfl) ?_
  intro p e s m below meth c ls C hl
  exact bCu_join_0 (l := l) C (iCu_join (l := l) C cfFU) v0 v2 v4 r h hl
def IhCu_isPart (p : Program) (l : Launch) (e : Env) (s : State) (m : MethodId) (below : List Frame) (meth : Method) (c : Code) (AR : Array Value) (n : Nat) : Prop := (∀ (v4 : Int64) (v6 : Int64) (r : Int32), gCu_isPart n 0 v4 v6 = some r → ∀ {ls : Array Slot}, lv_has ls 8 [(4, .long v4), (6, .long v6)] → W p l e ({ frames := 0, cells := 0, slots := 0, locals := 0 }) s m AR below meth c s.heap [] 0 0 (MQ below (cf_Pi (fun x => x = r)) AR s 0 0 (fun _ => False)) (F0 m 6 ls []))
set_option maxHeartbeats 4000000 in
set_option maxRecDepth 100000 in
theorem bCu_isPart_58 {p : Program} {l : Launch} {e : Env} {s : State} {m : MethodId} {below : List Frame} {meth : Method} {c : Code} {AR : Array Value} (C : dc_C p s m AR meth c cCu_isPart 8 (Option.some Jvm.ClassFile.FieldType.boolean) yCu_isPart) {n : Nat} (ih : IhCu_isPart p l e s m below meth c AR n) (s0 : Int32) (r : Int32) (h : fCu_isPart_58 (gCu_isPart n) s0 = some r) {ls : Array Slot} (hl : lv_has ls 8 []) : W p l e ({ frames := 0, cells := 0, slots := 0, locals := 0 }) s m AR below meth c s.heap [] 0 0 (MQ below (cf_Pi (fun x => x = r)) AR s 0 0 (fun _ => False)) (F0 m 58 ls [.int s0]) := by
  obtain ⟨hx, hb, hr, hts, hown, hlocks, hin, hml⟩ := id C
  obtain ⟨hz_1, h⟩ := op_w h
  obtain rfl := Option.some.inj h
  exact W.zret hx hb hr (op_z hz_1) (fun t ht hW => ⟨_, rfl, rfl, ht⟩) cf_pnil dCu_isPart_58 hlocks
set_option maxHeartbeats 4000000 in
set_option maxRecDepth 100000 in
theorem bCu_isPart_36 {p : Program} {l : Launch} {e : Env} {s : State} {m : MethodId} {below : List Frame} {meth : Method} {c : Code} {AR : Array Value} (C : dc_C p s m AR meth c cCu_isPart 8 (Option.some Jvm.ClassFile.FieldType.boolean) yCu_isPart) {n : Nat} (ih : IhCu_isPart p l e s m below meth c AR n) (v4 : Int64) (v6 : Int64) (r : Int32) (h : fCu_isPart_36 (gCu_isPart n) v4 v6 = some r) {ls : Array Slot} (hl : lv_has ls 8 [(4, .long v4), (6, .long v6)]) : W p l e ({ frames := 0, cells := 0, slots := 0, locals := 0 }) s m AR below meth c s.heap [] 0 0 (MQ below (cf_Pi (fun x => x = r)) AR s 0 0 (fun _ => False)) (F0 m 36 ls []) := by
  obtain ⟨hx, hb, hr, hts, hown, hlocks, hin, hml⟩ := id C
  refine lv_lload hx hb dCu_isPart_36 (lv_at hl 1 rfl) ?_
  refine lv_bipush (v := 8) hx hb dCu_isPart_38 (by decide) ?_
  refine lv_lushr hx hb dCu_isPart_40 rfl ?_
  refine lv_topl (fun x_1 ex_1 => ?_)
  have h := op_ks ex_1 h
  refine lv_lstore (lv' := [(6, .long x_1), (4, .long v4)]) hx hb dCu_isPart_41 hl (by decide) rfl (fun ls hl => ?_)
  refine lv_goto (tgt := 6) hx hb dCu_isPart_43 (by decide) ?_
  exact (ih) _ _ _ h (lv_sub hl [1, 0] rfl)
set_option maxHeartbeats 4000000 in
set_option maxRecDepth 100000 in
theorem bCu_isPart_6 {p : Program} {l : Launch} {e : Env} {s : State} {m : MethodId} {below : List Frame} {meth : Method} {c : Code} {AR : Array Value} (C : dc_C p s m AR meth c cCu_isPart 8 (Option.some Jvm.ClassFile.FieldType.boolean) yCu_isPart) {n : Nat} (ih : IhCu_isPart p l e s m below meth c AR n) (v4 : Int64) (v6 : Int64) (r : Int32) (h : fCu_isPart_6 (gCu_isPart n) v4 v6 = some r) {ls : Array Slot} (hl : lv_has ls 8 [(4, .long v4), (6, .long v6)]) : W p l e ({ frames := 0, cells := 0, slots := 0, locals := 0 }) s m AR below meth c s.heap [] 0 0 (MQ below (cf_Pi (fun x => x = r)) AR s 0 0 (fun _ => False)) (F0 m 6 ls []) := by
  obtain ⟨hx, hb, hr, hts, hown, hlocks, hin, hml⟩ := id C
  refine lv_lload hx hb dCu_isPart_6 (lv_at hl 1 rfl) ?_
  refine lv_lconst (v := 0) hx hb dCu_isPart_8 (by decide) ?_
  refine W.lcmp hx hb dCu_isPart_9 ?_
  refine lv_topi (fun x_1 ex_1 => ?_)
  have h := op_ks ex_1 h
  refine lv_if_eq (tgt := 46) hx hb dCu_isPart_10 (by decide) (fun c_2 => ?_) (fun c_2 => ?_)
  · have h := op_t c_2 h
    refine lv_lload hx hb dCu_isPart_46 (lv_at hl 0 rfl) ?_
    refine lv_lconst (v := 0) hx hb dCu_isPart_48 (by decide) ?_
    refine W.lcmp hx hb dCu_isPart_49 ?_
    refine lv_topi (fun x_3 ex_3 => ?_)
    have h := op_ks ex_3 h
    refine lv_if_ne (tgt := 57) hx hb dCu_isPart_50 (by decide) (fun c_4 => ?_) (fun c_4 => ?_)
    · have h := op_f c_4 h
      refine lv_iconst (v := 0) hx hb dCu_isPart_57 (by decide) ?_
      exact bCu_isPart_58 C ih _ _ h (lv_sub hl [] rfl)
    · have h := op_t c_4 h
      refine lv_iconst (v := 1) hx hb dCu_isPart_53 (by decide) ?_
      refine lv_goto (tgt := 58) hx hb dCu_isPart_54 (by decide) ?_
      exact bCu_isPart_58 C ih _ _ h (lv_sub hl [] rfl)
  · have h := op_f c_2 h
    refine lv_lload hx hb dCu_isPart_13 (lv_at hl 0 rfl) ?_
    refine lv_ldc2 (v := 255) hx hb hown (hts _ wv_1314) dCu_isPart_15 ?_
    refine lv_land hx hb dCu_isPart_18 ?_
    refine lv_topl (fun x_5 ex_5 => ?_)
    have h := op_ks ex_5 h
    refine lv_lload hx hb dCu_isPart_19 (lv_at hl 1 rfl) ?_
    refine lv_ldc2 (v := 255) hx hb hown (hts _ wv_1314) dCu_isPart_21 ?_
    refine lv_land hx hb dCu_isPart_24 ?_
    refine lv_topl (fun x_6 ex_6 => ?_)
    have h := op_ks ex_6 h
    refine W.lcmp hx hb dCu_isPart_25 ?_
    refine lv_topi (fun x_7 ex_7 => ?_)
    have h := op_ks ex_7 h
    refine lv_if_ne (tgt := 36) hx hb dCu_isPart_26 (by decide) (fun c_8 => ?_) (fun c_8 => ?_)
    · have h := op_f c_8 h
      exact bCu_isPart_36 C ih _ _ _ h (lv_sub hl [0, 1] rfl)
    · have h := op_t c_8 h
      refine lv_lload hx hb dCu_isPart_29 (lv_at hl 0 rfl) ?_
      refine lv_bipush (v := 8) hx hb dCu_isPart_31 (by decide) ?_
      refine lv_lushr hx hb dCu_isPart_33 rfl ?_
      refine lv_topl (fun x_9 ex_9 => ?_)
      have h := op_ks ex_9 h
      refine lv_lstore (lv' := [(4, .long x_9), (6, .long v6)]) hx hb dCu_isPart_34 hl (by decide) rfl (fun ls hl => ?_)
      exact bCu_isPart_36 C ih _ _ _ h (lv_sub hl [0, 1] rfl)
set_option maxHeartbeats 4000000 in
set_option maxRecDepth 100000 in
theorem bCu_isPart_0 {p : Program} {l : Launch} {e : Env} {s : State} {m : MethodId} {below : List Frame} {meth : Method} {c : Code} {AR : Array Value} (C : dc_C p s m AR meth c cCu_isPart 8 (Option.some Jvm.ClassFile.FieldType.boolean) yCu_isPart) {n : Nat} (ih : IhCu_isPart p l e s m below meth c AR n) (v0 : Int64) (v2 : Int64) (r : Int32) (h : fCu_isPart_0 (gCu_isPart n) v0 v2 = some r) {ls : Array Slot} (hl : lv_has ls 8 [(0, .long v0), (2, .long v2)]) : W p l e ({ frames := 0, cells := 0, slots := 0, locals := 0 }) s m AR below meth c s.heap [] 0 0 (MQ below (cf_Pi (fun x => x = r)) AR s 0 0 (fun _ => False)) (F0 m 0 ls []) := by
  obtain ⟨hx, hb, hr, hts, hown, hlocks, hin, hml⟩ := id C
  refine lv_lload_n hx hb dCu_isPart_0 rfl (lv_at hl 0 rfl) ?_
  refine lv_lstore (lv' := [(4, .long v0), (0, .long v0), (2, .long v2)]) hx hb dCu_isPart_1 hl (by decide) rfl (fun ls hl => ?_)
  refine lv_lload_n hx hb dCu_isPart_3 rfl (lv_at hl 2 rfl) ?_
  refine lv_lstore (lv' := [(6, .long v2), (4, .long v0), (0, .long v0), (2, .long v2)]) hx hb dCu_isPart_4 hl (by decide) rfl (fun ls hl => ?_)
  exact (ih) _ _ _ h (lv_sub hl [1, 0] rfl)
theorem iCu_isPart {p : Program} {l : Launch} {e : Env} {s : State} {m : MethodId} {below : List Frame} {meth : Method} {c : Code} {AR : Array Value} (C : dc_C p s m AR meth c cCu_isPart 8 (Option.some Jvm.ClassFile.FieldType.boolean) yCu_isPart) : ∀ n, IhCu_isPart p l e s m below meth c AR n := by
  intro n
  induction n with
  | zero => exact (fun _ _ r h => by cases (show none = some r from h))
  | succ n ih => exact fun x0 x1 r h _ hl => bCu_isPart_6 C ih x0 x1 r h hl
theorem mCu_isPart (l : Launch) (v0 : Int64) (v2 : Int64) (r : Int32) (h : fCu_isPart v0 v2 = some r) : Met l yCu_isPart (Cond.code yCu_isPart cCu_isPart 8 (Option.some Jvm.ClassFile.FieldType.boolean) :: cfB) ({ frames := 0, cells := 0, slots := 0, locals := 0 }) (fun v _ => v = ([.long v0, .long v2] : List Value).toArray) (cf_Pi (fun x => x = r)) 0 0 (fun _ => False) := by
  refine cf_ofP (y := yCu_isPart) (As := [.long v0, .long v2]) (maxL := 8) (cf_Pi (fun x => x = r)) (by decide) (Nat.le_of_ble_eq_true rfl) ?_
  intro p e s m below meth c ls C hl
  exact bCu_isPart_0 (l := l) C (iCu_isPart (l := l) C cfFU) v0 v2 r h hl
def IhCu_hasPart (p : Program) (l : Launch) (e : Env) (s : State) (m : MethodId) (below : List Frame) (meth : Method) (c : Code) (A : Nat → Prop) (D : va_G) (K : Nat → ClassId) (h0 : Nat) (a0 : Nat → Nat) (AR : Array Value) (n : Nat) : Prop := (∀ (v1 : Int64) (v3 : Int64) (v6 : Int32) (o0 : cf_O) (r : Int32), gCu_hasPart n 0 v1 v3 v6 o0 = some r → ∀ {H : Heap} {locs : List Loc} {ls : Array Slot}, (va_P D vwCl (wCu K h0 a0 o0) H) → (va_D A (wCu K h0 a0 o0)) → va_S A s.heap H locs → lv_has ls 7 [(0, .ref h0), (1, .long v1), (3, .long v3), (6, .int v6)] → W p l e ({ frames := 1, cells := 0, slots := 0, locals := 27 }) s m AR below meth c H locs 0 0 (MQ below (va_Qi (fun (x : Int32) (_ : Unit) => x = r) (fun (_ : Unit) t => cf_At D A (wCu K h0 a0 o0) t) A) AR s 0 0 A) (F0 m 4 ls []))
set_option maxHeartbeats 4000000 in
set_option maxRecDepth 100000 in
theorem bCu_hasPart_47 {p : Program} {l : Launch} {e : Env} {s : State} {m : MethodId} {below : List Frame} {meth : Method} {c : Code} {A : Nat → Prop} {D : va_G} {K : Nat → ClassId} {h0 : Nat} {a0 : Nat → Nat} {AR : Array Value} (C : (dc_C p s m AR meth c cCu_hasPart 7 (Option.some Jvm.ClassFile.FieldType.boolean) yCu_hasPart ∧ cf_E D K A s s.heap ∧ ∀ q, s.heap.size ≤ q → A q)) {n : Nat} (ih : IhCu_hasPart p l e s m below meth c A D K h0 a0 AR n) (v1 : Int64) (v3 : Int64) (v6 : Int32) (o0 : cf_O) (r : Int32) (h : fCu_hasPart_47 (gCu_hasPart n) v1 v3 v6 o0 = some r) {H : Heap} {locs : List Loc} {ls : Array Slot} (hP : va_P D vwCl (wCu K h0 a0 o0) H) (hD : va_D A (wCu K h0 a0 o0)) (hS : va_S A s.heap H locs) (hl : lv_has ls 7 [(0, .ref h0), (1, .long v1), (3, .long v3), (6, .int v6)]) : W p l e ({ frames := 1, cells := 0, slots := 0, locals := 27 }) s m AR below meth c H locs 0 0 (MQ below (va_Qi (fun (x : Int32) (_ : Unit) => x = r) (fun (_ : Unit) t => cf_At D A (wCu K h0 a0 o0) t) A) AR s 0 0 A) (F0 m 47 ls []) := by
  obtain ⟨⟨hx, hb, hr, hts, hown, hlocks, hin, hml⟩, hE, hA⟩ := id C
  have hK := hE.k
  obtain ⟨x_1, ex_1⟩ : ∃ y : Int32, y = v6 + 1 := ⟨_, rfl⟩
  refine lv_iinc (v := x_1) (lv' := [(6, .int x_1), (0, .ref h0), (1, .long v1), (3, .long v3)]) hx hb dCu_hasPart_47 hl (k := 3) rfl (by rw [ex_1]; rfl) (by decide) rfl (fun ls hl => ?_)
  have h := op_ks ex_1 h
  refine lv_goto (tgt := 4) hx hb dCu_hasPart_50 (by decide) ?_
  exact (ih) _ _ _ _ _ h hP hD hS (lv_sub hl [1, 2, 3, 0] rfl)
set_option maxHeartbeats 4000000 in
set_option maxRecDepth 100000 in
theorem bCu_hasPart_4 {p : Program} {l : Launch} {e : Env} {s : State} {m : MethodId} {below : List Frame} {meth : Method} {c : Code} {A : Nat → Prop} {D : va_G} {K : Nat → ClassId} {h0 : Nat} {a0 : Nat → Nat} {AR : Array Value} (C : (dc_C p s m AR meth c cCu_hasPart 7 (Option.some Jvm.ClassFile.FieldType.boolean) yCu_hasPart ∧ cf_E D K A s s.heap ∧ ∀ q, s.heap.size ≤ q → A q)) {n : Nat} (ih : IhCu_hasPart p l e s m below meth c A D K h0 a0 AR n) (v1 : Int64) (v3 : Int64) (v6 : Int32) (o0 : cf_O) (r : Int32) (h : fCu_hasPart_4 (gCu_hasPart n) v1 v3 v6 o0 = some r) {H : Heap} {locs : List Loc} {ls : Array Slot} (hP : va_P D vwCl (wCu K h0 a0 o0) H) (hD : va_D A (wCu K h0 a0 o0)) (hS : va_S A s.heap H locs) (hl : lv_has ls 7 [(0, .ref h0), (1, .long v1), (3, .long v3), (6, .int v6)]) : W p l e ({ frames := 1, cells := 0, slots := 0, locals := 27 }) s m AR below meth c H locs 0 0 (MQ below (va_Qi (fun (x : Int32) (_ : Unit) => x = r) (fun (_ : Unit) t => cf_At D A (wCu K h0 a0 o0) t) A) AR s 0 0 A) (F0 m 4 ls []) := by
  obtain ⟨⟨hx, hb, hr, hts, hown, hlocks, hin, hml⟩, hE, hA⟩ := id C
  have hK := hE.k
  refine lv_iload hx hb dCu_hasPart_4 (lv_at hl 3 rfl) ?_
  refine lv_aload_n hx hb dCu_hasPart_6 rfl (lv_at hl 0 rfl) ?_
  refine va_get (D := D) (ci := 5) (v := .int (o0.1 3)) (C := RCu) (T := TCu) (N := 6) hx hb hts inCu hown hK hP 0 rfl rfl 3 (by decide) (hts _ wv_269) (fun _ h9 => h9) rfl dCu_hasPart_7 ?_
  refine lv_icmp_ge (tgt := 53) hx hb dCu_hasPart_10 (by decide) (fun c_1 => ?_) (fun c_1 => ?_)
  · have h := op_t c_1 h
    refine lv_iconst (v := 0) hx hb dCu_hasPart_53 (by decide) ?_
    obtain rfl := Option.some.inj h
    exact dc_zret hx hb hr rfl hlocks rfl hP hD hS dCu_hasPart_54
  · have h := op_f c_1 h
    refine lv_aload_n hx hb dCu_hasPart_13 rfl (lv_at hl 0 rfl) ?_
    refine va_get (D := D) (ci := 5) (v := .ref (a0 5)) (C := RCu) (T := TCu) (N := 6) hx hb hts inCu hown hK hP 0 rfl rfl 5 (by decide) (hts _ wv_271) (fun _ h9 => h9) rfl dCu_hasPart_14 ?_
    refine lv_iload hx hb dCu_hasPart_17 (lv_at hl 3 rfl) ?_
    obtain ⟨hi_2, h⟩ := op_n h
    refine va_lald (D := D) hx hb hK hP 4 1 rfl rfl hi_2 dCu_hasPart_19 ?_
    refine lv_topl (fun x_3 ex_3 => ?_)
    have h := op_ks ex_3 h
    refine lv_lload_n hx hb dCu_hasPart_20 rfl (lv_at hl 2 rfl) ?_
    refine lv_ldc2 (v := (-1)) hx hb hown (hts _ wv_1322) dCu_hasPart_21 ?_
    refine lv_lxor hx hb dCu_hasPart_24 ?_
    refine lv_topl (fun x_4 ex_4 => ?_)
    have h := op_ks ex_4 h
    refine lv_land hx hb dCu_hasPart_25 ?_
    refine lv_topl (fun x_5 ex_5 => ?_)
    have h := op_ks ex_5 h
    refine lv_lconst (v := 0) hx hb dCu_hasPart_26 (by decide) ?_
    refine W.lcmp hx hb dCu_hasPart_27 ?_
    refine lv_topi (fun x_6 ex_6 => ?_)
    have h := op_ks ex_6 h
    refine lv_if_ne (tgt := 47) hx hb dCu_hasPart_28 (by decide) (fun c_7 => ?_) (fun c_7 => ?_)
    · have h := op_f c_7 h
      exact bCu_hasPart_47 C ih _ _ _ _ _ h hP hD hS (lv_sub hl [0, 1, 2, 3] rfl)
    · have h := op_t c_7 h
      refine lv_aload_n hx hb dCu_hasPart_31 rfl (lv_at hl 0 rfl) ?_
      refine va_get (D := D) (ci := 5) (v := .ref (a0 4)) (C := RCu) (T := TCu) (N := 6) hx hb hts inCu hown hK hP 0 rfl rfl 4 (by decide) (hts _ wv_270) (fun _ h9 => h9) rfl dCu_hasPart_32 ?_
      refine lv_iload hx hb dCu_hasPart_35 (lv_at hl 3 rfl) ?_
      obtain ⟨hi_8, h⟩ := op_n h
      refine va_lald (D := D) hx hb hK hP 3 1 rfl rfl hi_8 dCu_hasPart_37 ?_
      refine lv_topl (fun x_9 ex_9 => ?_)
      have h := op_ks ex_9 h
      refine lv_lload_n hx hb dCu_hasPart_38 rfl (lv_at hl 1 rfl) ?_
      obtain ⟨q_10, hq_10, h⟩ := op_b h
      refine cf_pcalli (va_runS (As := [.long x_9, .long v1]) (rest := []) ⟨hx, hb, hml, hown, hts⟩ (mCu_isPart l x_9 v1 _ hq_10) (va_cwS 2 hts (cf_GS wv_1323 wv_1324 wv_160 wv_1325) rfl rfl rfl (by decide +kernel) ⟨Nat.le_of_ble_eq_true rfl, Nat.le_of_ble_eq_true rfl⟩) preEq rfl rfl hl.1 rfl (lv_room (Nat.le_of_ble_eq_true rfl)) dCu_hasPart_39 ⟨Nat.le_of_ble_eq_true rfl, Nat.le_of_ble_eq_true rfl⟩) (fun r_11 hw_12 => ?_)
      subst r_11
      refine lv_if_eq (tgt := 47) hx hb dCu_hasPart_42 (by decide) (fun c_13 => ?_) (fun c_13 => ?_)
      · have h := op_t c_13 h
        exact bCu_hasPart_47 C ih _ _ _ _ _ h hP hD hS (lv_sub hl [0, 1, 2, 3] rfl)
      · have h := op_f c_13 h
        refine lv_iconst (v := 1) hx hb dCu_hasPart_45 (by decide) ?_
        obtain rfl := Option.some.inj h
        exact dc_zret hx hb hr rfl hlocks rfl hP hD hS dCu_hasPart_46
set_option maxHeartbeats 4000000 in
set_option maxRecDepth 100000 in
theorem bCu_hasPart_0 {p : Program} {l : Launch} {e : Env} {s : State} {m : MethodId} {below : List Frame} {meth : Method} {c : Code} {A : Nat → Prop} {D : va_G} {K : Nat → ClassId} {h0 : Nat} {a0 : Nat → Nat} {AR : Array Value} (C : (dc_C p s m AR meth c cCu_hasPart 7 (Option.some Jvm.ClassFile.FieldType.boolean) yCu_hasPart ∧ cf_E D K A s s.heap ∧ ∀ q, s.heap.size ≤ q → A q)) {n : Nat} (ih : IhCu_hasPart p l e s m below meth c A D K h0 a0 AR n) (v1 : Int64) (v3 : Int64) (v5 : Int32) (o0 : cf_O) (r : Int32) (h : fCu_hasPart_0 (gCu_hasPart n) v1 v3 v5 o0 = some r) {H : Heap} {locs : List Loc} {ls : Array Slot} (hP : va_P D vwCl (wCu K h0 a0 o0) H) (hD : va_D A (wCu K h0 a0 o0)) (hS : va_S A s.heap H locs) (hl : lv_has ls 7 [(0, .ref h0), (1, .long v1), (3, .long v3), (5, .int v5)]) : W p l e ({ frames := 1, cells := 0, slots := 0, locals := 27 }) s m AR below meth c H locs 0 0 (MQ below (va_Qi (fun (x : Int32) (_ : Unit) => x = r) (fun (_ : Unit) t => cf_At D A (wCu K h0 a0 o0) t) A) AR s 0 0 A) (F0 m 0 ls []) := by
  obtain ⟨⟨hx, hb, hr, hts, hown, hlocks, hin, hml⟩, hE, hA⟩ := id C
  have hK := hE.k
  refine lv_iload hx hb dCu_hasPart_0 (lv_at hl 3 rfl) ?_
  refine lv_istore (lv' := [(6, .int v5), (0, .ref h0), (1, .long v1), (3, .long v3), (5, .int v5)]) hx hb dCu_hasPart_2 hl (by decide) rfl (fun ls hl => ?_)
  exact (ih) _ _ _ _ _ h hP hD hS (lv_sub hl [1, 2, 3, 0] rfl)
theorem iCu_hasPart {p : Program} {l : Launch} {e : Env} {s : State} {m : MethodId} {below : List Frame} {meth : Method} {c : Code} {A : Nat → Prop} {D : va_G} {K : Nat → ClassId} {h0 : Nat} {a0 : Nat → Nat} {AR : Array Value} (C : (dc_C p s m AR meth c cCu_hasPart 7 (Option.some Jvm.ClassFile.FieldType.boolean) yCu_hasPart ∧ cf_E D K A s s.heap ∧ ∀ q, s.heap.size ≤ q → A q)) : ∀ n, IhCu_hasPart p l e s m below meth c A D K h0 a0 AR n := by
  intro n
  induction n with
  | zero => exact (fun _ _ _ _ r h => by cases (show none = some r from h))
  | succ n ih => exact fun x0 x1 x2 x3 r h _ _ _ hP hD hS hl => bCu_hasPart_4 C ih x0 x1 x2 x3 r h hP hD hS hl
set_option maxRecDepth 100000 in
theorem mCu_hasPart (l : Launch) (D : va_G) (K : Nat → ClassId) (sz : Nat) (v1 : Int64) (v3 : Int64) (v5 : Int32) (h0 : Nat) (a0 : Nat → Nat) (o0 : cf_O) (r : Int32) (h : fCu_hasPart v1 v3 v5 o0 = some r) : Met l yCu_hasPart (Cond.code yCu_hasPart cCu_hasPart 7 (Option.some Jvm.ClassFile.FieldType.boolean) :: cfB) ({ frames := 1, cells := 0, slots := 0, locals := 27 }) (va_Pc [.ref h0, .long v1, .long v3, .int v5] (cf_Pre D K sz (wCu K h0 a0 o0))) (va_Qi (fun (x : Int32) (_ : Unit) => x = r) (fun (_ : Unit) t => cf_At D (va_A (wCu K h0 a0 o0) sz) (wCu K h0 a0 o0) t) (va_A (wCu K h0 a0 o0) sz)) 0 0 (va_A (wCu K h0 a0 o0) sz) := by
  refine cf_ofW (y := yCu_hasPart) (As := [.ref h0, .long v1, .long v3, .int v5]) (WS := wCu K h0 a0 o0) (maxL := 7) (fun A => (va_Qi (fun (x : Int32) (_ : Unit) => x = r) (fun (_ : Unit) t => cf_At D A (wCu K h0 a0 o0) t) A)) (by decide) (Nat.le_of_ble_eq_true rfl) ?_
  intro p e s m below meth c A ls En hsz hA hP hD hE hS hl
  have C : (dc_C p s m (([.ref h0, .long v1, .long v3, .int v5] : List Value).toArray) meth c cCu_hasPart 7 (Option.some Jvm.ClassFile.FieldType.boolean) yCu_hasPart ∧ cf_E D K A s s.heap ∧ ∀ q, s.heap.size ≤ q → A q) := ⟨En, hE, hA⟩
  exact bCu_hasPart_0 C (iCu_hasPart C cfFU) v1 v3 v5 o0 r h hP hD hS hl
def NICu_joinAll (n : Nat) : Prop := (∀ (v1 : Int32) (v2 : Int32) (v3 : Int32) (v4 : Int32) (v5 : Int64) (v7 : Int32) (o0 : cf_O) (r : Int32 × cf_O), gCu_joinAll n 0 v1 v2 v3 v4 v5 v7 0 o0 = some r → phCu o0 ≤ phCu r.2) ∧ (∀ (v1 : Int32) (v2 : Int32) (v3 : Int32) (v4 : Int32) (v5 : Int64) (v7 : Int32) (v8 : Int32) (o0 : cf_O) (r : Int32 × cf_O), gCu_joinAll n 1 v1 v2 v3 v4 v5 v7 v8 o0 = some r → phCu o0 ≤ phCu r.2)
set_option maxRecDepth 100000 in
theorem nCu_joinAll_191 {n : Nat} (ih : NICu_joinAll n) (o0 : cf_O) (r : Int32 × cf_O) (h : fCu_joinAll_191 (gCu_joinAll n) o0 = some r) : phCu o0 ≤ phCu r.2 := by
  have hm : phCu o0 ≤ phCu o0 := Nat.le_refl _
  obtain rfl := Option.some.inj h
  exact hm
set_option maxRecDepth 100000 in
theorem nCu_joinAll_185 {n : Nat} (ih : NICu_joinAll n) (v1 : Int32) (v2 : Int32) (v3 : Int32) (v4 : Int32) (v5 : Int64) (v7 : Int32) (o0 : cf_O) (r : Int32 × cf_O) (h : fCu_joinAll_185 (gCu_joinAll n) v1 v2 v3 v4 v5 v7 o0 = some r) : phCu o0 ≤ phCu r.2 := by
  have hm : phCu o0 ≤ phCu o0 := Nat.le_refl _
  obtain ⟨x_1, ex_1, h⟩ := op_kx h
  exact Nat.le_trans hm ((ih.1) _ _ _ _ _ _ _ _ h)
set_option maxRecDepth 100000 in
theorem nCu_joinAll_179 {n : Nat} (ih : NICu_joinAll n) (v1 : Int32) (v2 : Int32) (v3 : Int32) (v4 : Int32) (v5 : Int64) (v7 : Int32) (v8 : Int32) (o0 : cf_O) (r : Int32 × cf_O) (h : fCu_joinAll_179 (gCu_joinAll n) v1 v2 v3 v4 v5 v7 v8 o0 = some r) : phCu o0 ≤ phCu r.2 := by
  have hm : phCu o0 ≤ phCu o0 := Nat.le_refl _
  obtain ⟨x_1, ex_1, h⟩ := op_kx h
  exact Nat.le_trans hm ((ih.2) _ _ _ _ _ _ _ _ _ h)
set_option maxRecDepth 100000 in
theorem nCu_joinAll_150 {n : Nat} (ih : NICu_joinAll n) (v1 : Int32) (v2 : Int32) (v3 : Int32) (v4 : Int32) (v5 : Int64) (v7 : Int32) (v8 : Int32) (v9 : Int64) (v11 : Int64) (s0 : Int32) (o0 : cf_O) (r : Int32 × cf_O) (h : fCu_joinAll_150 (gCu_joinAll n) v1 v2 v3 v4 v5 v7 v8 v9 v11 s0 o0 = some r) : phCu o0 ≤ phCu r.2 := by
  have hm : phCu o0 ≤ phCu o0 := Nat.le_refl _
  rcases (Classical.em (s0 = (0 : Int32))) with c_1 | c_1
  · have h := op_t c_1 h
    obtain ⟨x_2, ex_2, h⟩ := op_kx h
    rcases (Classical.em (x_2 = (300 : Int32))).symm with c_3 | c_3
    · have h := op_f c_3 h
      obtain ⟨q_4, hq_4, h⟩ := op_b h
      have hm : phCu o0 ≤ phCu q_4 := Nat.le_trans hm (nCu_add _ _ _ _ hq_4)
      exact Nat.le_trans hm (nCu_joinAll_179 ih _ _ _ _ _ _ _ _ _ h)
    · have h := op_t c_3 h
      obtain rfl := Option.some.inj h
      exact hm
  · have h := op_f c_1 h
    exact Nat.le_trans hm (nCu_joinAll_179 ih _ _ _ _ _ _ _ _ _ h)
set_option maxRecDepth 100000 in
theorem nCu_joinAll_124 {n : Nat} (ih : NICu_joinAll n) (v1 : Int32) (v2 : Int32) (v3 : Int32) (v4 : Int32) (v5 : Int64) (v7 : Int32) (v8 : Int32) (v9 : Int64) (s0 : Int64) (o0 : cf_O) (r : Int32 × cf_O) (h : fCu_joinAll_124 (gCu_joinAll n) v1 v2 v3 v4 v5 v7 v8 v9 s0 o0 = some r) : phCu o0 ≤ phCu r.2 := by
  have hm : phCu o0 ≤ phCu o0 := Nat.le_refl _
  obtain ⟨x_1, ex_1, h⟩ := op_kx h
  obtain ⟨x_2, ex_2, h⟩ := op_kx h
  obtain ⟨x_3, ex_3, h⟩ := op_kx h
  obtain ⟨x_4, ex_4, h⟩ := op_kx h
  rcases (Classical.em (x_4 = (0 : Int32))) with c_5 | c_5
  · have h := op_t c_5 h
    exact Nat.le_trans hm (nCu_joinAll_179 ih _ _ _ _ _ _ _ _ _ h)
  · have h := op_f c_5 h
    obtain ⟨q_6, hq_6, h⟩ := op_b h
    exact Nat.le_trans hm (nCu_joinAll_150 ih _ _ _ _ _ _ _ _ _ _ _ _ h)
set_option maxRecDepth 100000 in
theorem nCu_joinAll_98 {n : Nat} (ih : NICu_joinAll n) (v1 : Int32) (v2 : Int32) (v3 : Int32) (v4 : Int32) (v5 : Int64) (v7 : Int32) (v8 : Int32) (v9 : Int64) (s0 : Int32) (o0 : cf_O) (r : Int32 × cf_O) (h : fCu_joinAll_98 (gCu_joinAll n) v1 v2 v3 v4 v5 v7 v8 v9 s0 o0 = some r) : phCu o0 ≤ phCu r.2 := by
  have hm : phCu o0 ≤ phCu o0 := Nat.le_refl _
  rcases (Classical.em (s0 ≤ v3)) with c_1 | c_1
  · have h := op_t c_1 h
    obtain ⟨hi_2, h⟩ := op_n h
    obtain ⟨x_3, ex_3, h⟩ := op_kx h
    obtain ⟨hi_4, h⟩ := op_n h
    obtain ⟨x_5, ex_5, h⟩ := op_kx h
    obtain ⟨q_6, hq_6, h⟩ := op_b h
    exact Nat.le_trans hm (nCu_joinAll_124 ih _ _ _ _ _ _ _ _ _ _ _ h)
  · have h := op_f c_1 h
    exact Nat.le_trans hm (nCu_joinAll_124 ih _ _ _ _ _ _ _ _ _ _ _ h)
set_option maxRecDepth 100000 in
theorem nCu_joinAll_50 {n : Nat} (ih : NICu_joinAll n) (v1 : Int32) (v2 : Int32) (v3 : Int32) (v4 : Int32) (v5 : Int64) (v7 : Int32) (v8 : Int32) (o0 : cf_O) (r : Int32 × cf_O) (h : fCu_joinAll_50 (gCu_joinAll n) v1 v2 v3 v4 v5 v7 v8 o0 = some r) : phCu o0 ≤ phCu r.2 := by
  have hm : phCu o0 ≤ phCu o0 := Nat.le_refl _
  obtain ⟨x_1, ex_1, h⟩ := op_kx h
  obtain ⟨hi_2, h⟩ := op_n h
  obtain ⟨x_3, ex_3, h⟩ := op_kx h
  rcases (Classical.em (x_3 ≤ v8)) with c_4 | c_4
  · have h := op_t c_4 h
    exact Nat.le_trans hm (nCu_joinAll_185 ih _ _ _ _ _ _ _ _ h)
  · have h := op_f c_4 h
    obtain ⟨hi_5, h⟩ := op_n h
    obtain ⟨x_6, ex_6, h⟩ := op_kx h
    obtain ⟨x_7, ex_7, h⟩ := op_kx h
    rcases (Classical.em ((0 : Int32) ≤ x_7)) with c_8 | c_8
    · have h := op_t c_8 h
      exact Nat.le_trans hm (nCu_joinAll_185 ih _ _ _ _ _ _ _ _ h)
    · have h := op_f c_8 h
      obtain ⟨hi_9, h⟩ := op_n h
      obtain ⟨x_10, ex_10, h⟩ := op_kx h
      obtain ⟨hi_11, h⟩ := op_n h
      obtain ⟨x_12, ex_12, h⟩ := op_kx h
      obtain ⟨x_13, ex_13, h⟩ := op_kx h
      obtain ⟨q_14, hq_14, h⟩ := op_b h
      exact Nat.le_trans hm (nCu_joinAll_98 ih _ _ _ _ _ _ _ _ _ _ _ h)
set_option maxRecDepth 100000 in
theorem nCu_joinAll_16 {n : Nat} (ih : NICu_joinAll n) (v1 : Int32) (v2 : Int32) (v3 : Int32) (v4 : Int32) (v5 : Int64) (v7 : Int32) (o0 : cf_O) (r : Int32 × cf_O) (h : fCu_joinAll_16 (gCu_joinAll n) v1 v2 v3 v4 v5 v7 o0 = some r) : phCu o0 ≤ phCu r.2 := by
  have hm : phCu o0 ≤ phCu o0 := Nat.le_refl _
  obtain ⟨x_1, ex_1, h⟩ := op_kx h
  obtain ⟨hi_2, h⟩ := op_n h
  obtain ⟨x_3, ex_3, h⟩ := op_kx h
  rcases (Classical.em (x_3 ≤ v7)) with c_4 | c_4
  · have h := op_t c_4 h
    exact Nat.le_trans hm (nCu_joinAll_191 ih _ _ h)
  · have h := op_f c_4 h
    obtain ⟨hi_5, h⟩ := op_n h
    obtain ⟨x_6, ex_6, h⟩ := op_kx h
    obtain ⟨x_7, ex_7, h⟩ := op_kx h
    rcases (Classical.em ((0 : Int32) ≤ x_7)) with c_8 | c_8
    · have h := op_t c_8 h
      exact Nat.le_trans hm (nCu_joinAll_191 ih _ _ h)
    · have h := op_f c_8 h
      obtain ⟨hi_9, h⟩ := op_n h
      obtain ⟨x_10, ex_10, h⟩ := op_kx h
      exact Nat.le_trans hm ((ih.2) _ _ _ _ _ _ _ _ _ h)
set_option maxRecDepth 100000 in
theorem nCu_joinAll_0 {n : Nat} (ih : NICu_joinAll n) (v1 : Int32) (v2 : Int32) (v3 : Int32) (v4 : Int32) (o0 : cf_O) (r : Int32 × cf_O) (h : fCu_joinAll_0 (gCu_joinAll n) v1 v2 v3 v4 o0 = some r) : phCu o0 ≤ phCu r.2 := by
  have hm : phCu o0 ≤ phCu o0 := Nat.le_refl _
  obtain ⟨x_1, ex_1, h⟩ := op_kx h
  obtain ⟨x_2, ex_2, h⟩ := op_kx h
  obtain ⟨hi_3, h⟩ := op_n h
  obtain ⟨x_4, ex_4, h⟩ := op_kx h
  exact Nat.le_trans hm ((ih.1) _ _ _ _ _ _ _ _ h)
theorem niCu_joinAll : ∀ n, NICu_joinAll n := by
  intro n
  induction n with
  | zero => exact ⟨(fun _ _ _ _ _ _ _ r h => by cases (show none = some r from h)), (fun _ _ _ _ _ _ _ _ r h => by cases (show none = some r from h))⟩
  | succ n ih => exact ⟨fun x0 x1 x2 x3 x4 x5 x6 r h => nCu_joinAll_16 ih x0 x1 x2 x3 x4 x5 x6 r h, fun x0 x1 x2 x3 x4 x5 x6 x7 r h => nCu_joinAll_50 ih x0 x1 x2 x3 x4 x5 x6 x7 r h⟩
theorem nCu_joinAll (v1 : Int32) (v2 : Int32) (v3 : Int32) (v4 : Int32) (o0 : cf_O) (r : Int32 × cf_O) (h : fCu_joinAll v1 v2 v3 v4 o0 = some r) : phCu o0 ≤ phCu r.2 := nCu_joinAll_0 (niCu_joinAll cfFU) v1 v2 v3 v4 o0 r h
def IhCu_joinAll (p : Program) (l : Launch) (e : Env) (s : State) (m : MethodId) (below : List Frame) (meth : Method) (c : Code) (A : Nat → Prop) (D : va_G) (K : Nat → ClassId) (h0 : Nat) (os : cf_O) (AR : Array Value) (n : Nat) : Prop := (∀ (v1 : Int32) (v2 : Int32) (v3 : Int32) (v4 : Int32) (v5 : Int64) (v7 : Int32) (o0 : cf_O) (r : Int32 × cf_O), gCu_joinAll n 0 v1 v2 v3 v4 v5 v7 0 o0 = some r → ∀ {a0 : Nat → Nat} {H : Heap} {locs : List Loc} {ls : Array Slot}, (phCu os ≤ phCu o0) → (va_P D vwCl (wCu K h0 a0 o0) H) → (va_D A (wCu K h0 a0 o0)) → va_S A s.heap H locs → lv_has ls 13 [(0, .ref h0), (1, .int v1), (2, .int v2), (3, .int v3), (4, .int v4), (5, .long v5), (7, .int v7)] → W p l e ({ frames := 3, cells := (gC (phCu os) (phCu r.2)), slots := (gS (phCu os) (phCu r.2)), locals := 126 }) s m AR below meth c H locs (gC (phCu os) (phCu o0)) (gS (phCu os) (phCu o0)) (MQ below (va_Qi (fun (x : Int32) (_ : Nat → Nat) => x = r.1) (fun (u : Nat → Nat) t => cf_At D A (wCu K h0 u r.2) t) A) AR s (gC (phCu os) (phCu r.2)) (gS (phCu os) (phCu r.2)) A) (F0 m 16 ls [])) ∧ (∀ (v1 : Int32) (v2 : Int32) (v3 : Int32) (v4 : Int32) (v5 : Int64) (v7 : Int32) (v8 : Int32) (o0 : cf_O) (r : Int32 × cf_O), gCu_joinAll n 1 v1 v2 v3 v4 v5 v7 v8 o0 = some r → ∀ {a0 : Nat → Nat} {H : Heap} {locs : List Loc} {ls : Array Slot}, (phCu os ≤ phCu o0) → (va_P D vwCl (wCu K h0 a0 o0) H) → (va_D A (wCu K h0 a0 o0)) → va_S A s.heap H locs → lv_has ls 13 [(0, .ref h0), (1, .int v1), (2, .int v2), (3, .int v3), (4, .int v4), (5, .long v5), (7, .int v7), (8, .int v8)] → W p l e ({ frames := 3, cells := (gC (phCu os) (phCu r.2)), slots := (gS (phCu os) (phCu r.2)), locals := 126 }) s m AR below meth c H locs (gC (phCu os) (phCu o0)) (gS (phCu os) (phCu o0)) (MQ below (va_Qi (fun (x : Int32) (_ : Nat → Nat) => x = r.1) (fun (u : Nat → Nat) t => cf_At D A (wCu K h0 u r.2) t) A) AR s (gC (phCu os) (phCu r.2)) (gS (phCu os) (phCu r.2)) A) (F0 m 50 ls []))
set_option maxHeartbeats 4000000 in
set_option maxRecDepth 100000 in
theorem bCu_joinAll_191 {p : Program} {l : Launch} {e : Env} {s : State} {m : MethodId} {below : List Frame} {meth : Method} {c : Code} {A : Nat → Prop} {D : va_G} {K : Nat → ClassId} {h0 : Nat} {os : cf_O} {AR : Array Value} (C : (dc_C p s m AR meth c cCu_joinAll 13 (Option.some Jvm.ClassFile.FieldType.boolean) yCu_joinAll ∧ cf_E D K A s s.heap ∧ ∀ q, s.heap.size ≤ q → A q)) {n : Nat} (ih : IhCu_joinAll p l e s m below meth c A D K h0 os AR n) (o0 : cf_O) (r : Int32 × cf_O) (h : fCu_joinAll_191 (gCu_joinAll n) o0 = some r) {a0 : Nat → Nat} {H : Heap} {locs : List Loc} {ls : Array Slot} (hg : phCu os ≤ phCu o0) (hP : va_P D vwCl (wCu K h0 a0 o0) H) (hD : va_D A (wCu K h0 a0 o0)) (hS : va_S A s.heap H locs) (hl : lv_has ls 13 []) : W p l e ({ frames := 3, cells := (gC (phCu os) (phCu r.2)), slots := (gS (phCu os) (phCu r.2)), locals := 126 }) s m AR below meth c H locs (gC (phCu os) (phCu o0)) (gS (phCu os) (phCu o0)) (MQ below (va_Qi (fun (x : Int32) (_ : Nat → Nat) => x = r.1) (fun (u : Nat → Nat) t => cf_At D A (wCu K h0 u r.2) t) A) AR s (gC (phCu os) (phCu r.2)) (gS (phCu os) (phCu r.2)) A) (F0 m 191 ls []) := by
  obtain ⟨⟨hx, hb, hr, hts, hown, hlocks, hin, hml⟩, hE, hA⟩ := id C
  have hK := hE.k
  refine lv_iconst (v := 1) hx hb dCu_joinAll_191 (by decide) ?_
  obtain rfl := Option.some.inj h
  exact dc_zretG a0 hx hb hr rfl hlocks rfl hP hD hS dCu_joinAll_192
set_option maxHeartbeats 4000000 in
set_option maxRecDepth 100000 in
theorem bCu_joinAll_185 {p : Program} {l : Launch} {e : Env} {s : State} {m : MethodId} {below : List Frame} {meth : Method} {c : Code} {A : Nat → Prop} {D : va_G} {K : Nat → ClassId} {h0 : Nat} {os : cf_O} {AR : Array Value} (C : (dc_C p s m AR meth c cCu_joinAll 13 (Option.some Jvm.ClassFile.FieldType.boolean) yCu_joinAll ∧ cf_E D K A s s.heap ∧ ∀ q, s.heap.size ≤ q → A q)) {n : Nat} (ih : IhCu_joinAll p l e s m below meth c A D K h0 os AR n) (v1 : Int32) (v2 : Int32) (v3 : Int32) (v4 : Int32) (v5 : Int64) (v7 : Int32) (o0 : cf_O) (r : Int32 × cf_O) (h : fCu_joinAll_185 (gCu_joinAll n) v1 v2 v3 v4 v5 v7 o0 = some r) {a0 : Nat → Nat} {H : Heap} {locs : List Loc} {ls : Array Slot} (hg : phCu os ≤ phCu o0) (hP : va_P D vwCl (wCu K h0 a0 o0) H) (hD : va_D A (wCu K h0 a0 o0)) (hS : va_S A s.heap H locs) (hl : lv_has ls 13 [(0, .ref h0), (1, .int v1), (2, .int v2), (3, .int v3), (4, .int v4), (5, .long v5), (7, .int v7)]) : W p l e ({ frames := 3, cells := (gC (phCu os) (phCu r.2)), slots := (gS (phCu os) (phCu r.2)), locals := 126 }) s m AR below meth c H locs (gC (phCu os) (phCu o0)) (gS (phCu os) (phCu o0)) (MQ below (va_Qi (fun (x : Int32) (_ : Nat → Nat) => x = r.1) (fun (u : Nat → Nat) t => cf_At D A (wCu K h0 u r.2) t) A) AR s (gC (phCu os) (phCu r.2)) (gS (phCu os) (phCu r.2)) A) (F0 m 185 ls []) := by
  obtain ⟨⟨hx, hb, hr, hts, hown, hlocks, hin, hml⟩, hE, hA⟩ := id C
  have hK := hE.k
  obtain ⟨x_1, ex_1⟩ : ∃ y : Int32, y = v7 + 1 := ⟨_, rfl⟩
  refine lv_iinc (v := x_1) (lv' := [(7, .int x_1), (0, .ref h0), (1, .int v1), (2, .int v2), (3, .int v3), (4, .int v4), (5, .long v5)]) hx hb dCu_joinAll_185 hl (k := 6) rfl (by rw [ex_1]; rfl) (by decide) rfl (fun ls hl => ?_)
  have h := op_ks ex_1 h
  refine lv_goto (tgt := 16) hx hb dCu_joinAll_188 (by decide) ?_
  exact (ih.1) _ _ _ _ _ _ _ _ h hg hP hD hS (lv_sub hl [1, 2, 3, 4, 5, 6, 0] rfl)
set_option maxHeartbeats 4000000 in
set_option maxRecDepth 100000 in
theorem bCu_joinAll_179 {p : Program} {l : Launch} {e : Env} {s : State} {m : MethodId} {below : List Frame} {meth : Method} {c : Code} {A : Nat → Prop} {D : va_G} {K : Nat → ClassId} {h0 : Nat} {os : cf_O} {AR : Array Value} (C : (dc_C p s m AR meth c cCu_joinAll 13 (Option.some Jvm.ClassFile.FieldType.boolean) yCu_joinAll ∧ cf_E D K A s s.heap ∧ ∀ q, s.heap.size ≤ q → A q)) {n : Nat} (ih : IhCu_joinAll p l e s m below meth c A D K h0 os AR n) (v1 : Int32) (v2 : Int32) (v3 : Int32) (v4 : Int32) (v5 : Int64) (v7 : Int32) (v8 : Int32) (o0 : cf_O) (r : Int32 × cf_O) (h : fCu_joinAll_179 (gCu_joinAll n) v1 v2 v3 v4 v5 v7 v8 o0 = some r) {a0 : Nat → Nat} {H : Heap} {locs : List Loc} {ls : Array Slot} (hg : phCu os ≤ phCu o0) (hP : va_P D vwCl (wCu K h0 a0 o0) H) (hD : va_D A (wCu K h0 a0 o0)) (hS : va_S A s.heap H locs) (hl : lv_has ls 13 [(0, .ref h0), (1, .int v1), (2, .int v2), (3, .int v3), (4, .int v4), (5, .long v5), (7, .int v7), (8, .int v8)]) : W p l e ({ frames := 3, cells := (gC (phCu os) (phCu r.2)), slots := (gS (phCu os) (phCu r.2)), locals := 126 }) s m AR below meth c H locs (gC (phCu os) (phCu o0)) (gS (phCu os) (phCu o0)) (MQ below (va_Qi (fun (x : Int32) (_ : Nat → Nat) => x = r.1) (fun (u : Nat → Nat) t => cf_At D A (wCu K h0 u r.2) t) A) AR s (gC (phCu os) (phCu r.2)) (gS (phCu os) (phCu r.2)) A) (F0 m 179 ls []) := by
  obtain ⟨⟨hx, hb, hr, hts, hown, hlocks, hin, hml⟩, hE, hA⟩ := id C
  have hK := hE.k
  obtain ⟨x_1, ex_1⟩ : ∃ y : Int32, y = v8 + 1 := ⟨_, rfl⟩
  refine lv_iinc (v := x_1) (lv' := [(8, .int x_1), (0, .ref h0), (1, .int v1), (2, .int v2), (3, .int v3), (4, .int v4), (5, .long v5), (7, .int v7)]) hx hb dCu_joinAll_179 hl (k := 7) rfl (by rw [ex_1]; rfl) (by decide) rfl (fun ls hl => ?_)
  have h := op_ks ex_1 h
  refine lv_goto (tgt := 50) hx hb dCu_joinAll_182 (by decide) ?_
  exact (ih.2) _ _ _ _ _ _ _ _ _ h hg hP hD hS (lv_sub hl [1, 2, 3, 4, 5, 6, 7, 0] rfl)
set_option maxHeartbeats 4000000 in
set_option maxRecDepth 100000 in
theorem bCu_joinAll_150 {p : Program} {l : Launch} {e : Env} {s : State} {m : MethodId} {below : List Frame} {meth : Method} {c : Code} {A : Nat → Prop} {D : va_G} {K : Nat → ClassId} {h0 : Nat} {os : cf_O} {AR : Array Value} (C : (dc_C p s m AR meth c cCu_joinAll 13 (Option.some Jvm.ClassFile.FieldType.boolean) yCu_joinAll ∧ cf_E D K A s s.heap ∧ ∀ q, s.heap.size ≤ q → A q)) {n : Nat} (ih : IhCu_joinAll p l e s m below meth c A D K h0 os AR n) (v1 : Int32) (v2 : Int32) (v3 : Int32) (v4 : Int32) (v5 : Int64) (v7 : Int32) (v8 : Int32) (v9 : Int64) (v11 : Int64) (s0 : Int32) (o0 : cf_O) (r : Int32 × cf_O) (h : fCu_joinAll_150 (gCu_joinAll n) v1 v2 v3 v4 v5 v7 v8 v9 v11 s0 o0 = some r) {a0 : Nat → Nat} {H : Heap} {locs : List Loc} {ls : Array Slot} (hg : phCu os ≤ phCu o0) (hP : va_P D vwCl (wCu K h0 a0 o0) H) (hD : va_D A (wCu K h0 a0 o0)) (hS : va_S A s.heap H locs) (hl : lv_has ls 13 [(0, .ref h0), (1, .int v1), (2, .int v2), (3, .int v3), (4, .int v4), (5, .long v5), (7, .int v7), (8, .int v8), (9, .long v9), (11, .long v11)]) : W p l e ({ frames := 3, cells := (gC (phCu os) (phCu r.2)), slots := (gS (phCu os) (phCu r.2)), locals := 126 }) s m AR below meth c H locs (gC (phCu os) (phCu o0)) (gS (phCu os) (phCu o0)) (MQ below (va_Qi (fun (x : Int32) (_ : Nat → Nat) => x = r.1) (fun (u : Nat → Nat) t => cf_At D A (wCu K h0 u r.2) t) A) AR s (gC (phCu os) (phCu r.2)) (gS (phCu os) (phCu r.2)) A) (F0 m 150 ls [.int s0]) := by
  obtain ⟨⟨hx, hb, hr, hts, hown, hlocks, hin, hml⟩, hE, hA⟩ := id C
  have hK := hE.k
  refine lv_if_eq (tgt := 156) hx hb dCu_joinAll_150 (by decide) (fun c_1 => ?_) (fun c_1 => ?_)
  · have h := op_t c_1 h
    refine lv_aload_n hx hb dCu_joinAll_156 rfl (lv_at hl 0 rfl) ?_
    refine va_get (D := D) (ci := 5) (v := .int (o0.1 3)) (C := RCu) (T := TCu) (N := 6) hx hb hts inCu hown hK hP 0 rfl rfl 3 (by decide) (hts _ wv_269) (fun _ h9 => h9) rfl dCu_joinAll_157 ?_
    refine lv_iload hx hb dCu_joinAll_160 (lv_at hl 4 rfl) ?_
    refine lv_isub hx hb dCu_joinAll_162 ?_
    refine lv_topi (fun x_2 ex_2 => ?_)
    have h := op_ks ex_2 h
    refine lv_sipush (v := 300) hx hb dCu_joinAll_163 (by decide) ?_
    refine lv_icmp_ne (tgt := 171) hx hb dCu_joinAll_166 (by decide) (fun c_3 => ?_) (fun c_3 => ?_)
    · have h := op_f c_3 h
      refine lv_aload_n hx hb dCu_joinAll_171 rfl (lv_at hl 0 rfl) ?_
      refine lv_lload hx hb dCu_joinAll_172 (lv_at hl 9 rfl) ?_
      refine lv_lload hx hb dCu_joinAll_174 (lv_at hl 8 rfl) ?_
      obtain ⟨q_4, hq_4, h⟩ := op_b h
      have hgr_5 : phCu q_4 ≤ phCu r.2 := nCu_joinAll_179 (niCu_joinAll n) _ _ _ _ _ _ _ _ _ h
      have hg2_6 : phCu o0 ≤ phCu q_4 := nCu_add _ _ _ _ hq_4
      refine cf_callv (wc := wCu K h0 a0 o0) (wr := []) (va_runV (As := [.long v11, .long v9]) (rest := []) ⟨hx, hb, hml, hown, hts⟩ (mCu_add l D K _ v11 v9 h0 a0 o0 _ hq_4) (cwV 2 hts (cf_GV wv_1278 wv_1280 wv_37 wv_160 wv_1281) rfl rfl rfl (by decide +kernel) ⟨Nat.le_of_ble_eq_true rfl, Nat.le_of_ble_eq_true rfl⟩) (cf_preV (wc := wCu K h0 a0 o0) hE hP hD hS hA rfl 0 rfl [0, 1, 2, 3, 4] rfl (by decide +kernel)) rfl rfl hl.1 rfl (lv_room (Nat.le_of_ble_eq_true rfl)) dCu_joinAll_176 ⟨Nat.le_trans (gC_add hg hg2_6) (gC_le hgr_5), Nat.le_trans (gS_add hg hg2_6) (gS_le hgr_5)⟩) hP hD hS hA [0, 1, 2, 3, 4] [] rfl rfl (by decide +kernel) (by decide +kernel) (fun a0_8 H locs hw_7 hP hD hS => ?_)
      have hP : va_P D vwCl (wCu K h0 a0_8 q_4) H := hP.sub [0, 1, 2, 3, 4] rfl
      have hD : va_D A (wCu K h0 a0_8 q_4) := hD.sub [0, 1, 2, 3, 4] (by decide +kernel) rfl
      refine W.widen (k := (gC (phCu os) (phCu q_4))) (n := (gS (phCu os) (phCu q_4))) (gC_add hg hg2_6) (gS_add hg hg2_6) ?_
      have hg : phCu os ≤ phCu q_4 := Nat.le_trans hg hg2_6
      exact bCu_joinAll_179 C ih _ _ _ _ _ _ _ _ _ h hg hP hD hS (lv_sub hl [0, 1, 2, 3, 4, 5, 6, 7] rfl)
    · have h := op_t c_3 h
      refine lv_iconst (v := 0) hx hb dCu_joinAll_169 (by decide) ?_
      obtain rfl := Option.some.inj h
      exact dc_zretG a0 hx hb hr rfl hlocks rfl hP hD hS dCu_joinAll_170
  · have h := op_f c_1 h
    refine lv_goto (tgt := 179) hx hb dCu_joinAll_153 (by decide) ?_
    exact bCu_joinAll_179 C ih _ _ _ _ _ _ _ _ _ h hg hP hD hS (lv_sub hl [0, 1, 2, 3, 4, 5, 6, 7] rfl)
set_option maxHeartbeats 4000000 in
set_option maxRecDepth 100000 in
theorem bCu_joinAll_124 {p : Program} {l : Launch} {e : Env} {s : State} {m : MethodId} {below : List Frame} {meth : Method} {c : Code} {A : Nat → Prop} {D : va_G} {K : Nat → ClassId} {h0 : Nat} {os : cf_O} {AR : Array Value} (C : (dc_C p s m AR meth c cCu_joinAll 13 (Option.some Jvm.ClassFile.FieldType.boolean) yCu_joinAll ∧ cf_E D K A s s.heap ∧ ∀ q, s.heap.size ≤ q → A q)) {n : Nat} (ih : IhCu_joinAll p l e s m below meth c A D K h0 os AR n) (v1 : Int32) (v2 : Int32) (v3 : Int32) (v4 : Int32) (v5 : Int64) (v7 : Int32) (v8 : Int32) (v9 : Int64) (s0 : Int64) (o0 : cf_O) (r : Int32 × cf_O) (h : fCu_joinAll_124 (gCu_joinAll n) v1 v2 v3 v4 v5 v7 v8 v9 s0 o0 = some r) {a0 : Nat → Nat} {H : Heap} {locs : List Loc} {ls : Array Slot} (hg : phCu os ≤ phCu o0) (hP : va_P D vwCl (wCu K h0 a0 o0) H) (hD : va_D A (wCu K h0 a0 o0)) (hS : va_S A s.heap H locs) (hl : lv_has ls 13 [(0, .ref h0), (1, .int v1), (2, .int v2), (3, .int v3), (4, .int v4), (5, .long v5), (7, .int v7), (8, .int v8), (9, .long v9)]) : W p l e ({ frames := 3, cells := (gC (phCu os) (phCu r.2)), slots := (gS (phCu os) (phCu r.2)), locals := 126 }) s m AR below meth c H locs (gC (phCu os) (phCu o0)) (gS (phCu os) (phCu o0)) (MQ below (va_Qi (fun (x : Int32) (_ : Nat → Nat) => x = r.1) (fun (u : Nat → Nat) t => cf_At D A (wCu K h0 u r.2) t) A) AR s (gC (phCu os) (phCu r.2)) (gS (phCu os) (phCu r.2)) A) (F0 m 124 ls [.long s0]) := by
  obtain ⟨⟨hx, hb, hr, hts, hown, hlocks, hin, hml⟩, hE, hA⟩ := id C
  have hK := hE.k
  refine lv_lstore (lv' := [(11, .long s0), (0, .ref h0), (1, .int v1), (2, .int v2), (3, .int v3), (4, .int v4), (5, .long v5), (7, .int v7), (8, .int v8), (9, .long v9)]) hx hb dCu_joinAll_124 hl (by decide) rfl (fun ls hl => ?_)
  refine lv_lload hx hb dCu_joinAll_126 (lv_at hl 0 rfl) ?_
  refine lv_bipush (v := 8) hx hb dCu_joinAll_128 (by decide) ?_
  refine lv_iload_n hx hb dCu_joinAll_130 rfl (lv_at hl 4 rfl) ?_
  refine lv_iconst (v := 1) hx hb dCu_joinAll_131 (by decide) ?_
  refine lv_isub hx hb dCu_joinAll_132 ?_
  refine lv_topi (fun x_1 ex_1 => ?_)
  have h := op_ks ex_1 h
  refine lv_imul hx hb dCu_joinAll_133 ?_
  refine lv_topi (fun x_2 ex_2 => ?_)
  have h := op_ks ex_2 h
  refine lv_lushr hx hb dCu_joinAll_134 rfl ?_
  refine lv_topl (fun x_3 ex_3 => ?_)
  have h := op_ks ex_3 h
  refine lv_lconst (v := 0) hx hb dCu_joinAll_135 (by decide) ?_
  refine W.lcmp hx hb dCu_joinAll_136 ?_
  refine lv_topi (fun x_4 ex_4 => ?_)
  have h := op_ks ex_4 h
  refine lv_if_eq (tgt := 179) hx hb dCu_joinAll_137 (by decide) (fun c_5 => ?_) (fun c_5 => ?_)
  · have h := op_t c_5 h
    exact bCu_joinAll_179 C ih _ _ _ _ _ _ _ _ _ h hg hP hD hS (lv_sub hl [1, 2, 3, 4, 5, 6, 7, 8] rfl)
  · have h := op_f c_5 h
    refine lv_aload_n hx hb dCu_joinAll_140 rfl (lv_at hl 1 rfl) ?_
    refine lv_lload hx hb dCu_joinAll_141 (lv_at hl 0 rfl) ?_
    refine lv_lload hx hb dCu_joinAll_143 (lv_at hl 9 rfl) ?_
    refine lv_iload hx hb dCu_joinAll_145 (lv_at hl 5 rfl) ?_
    obtain ⟨q_6, hq_6, h⟩ := op_b h
    have hgr_7 : phCu o0 ≤ phCu r.2 := nCu_joinAll_150 (niCu_joinAll n) _ _ _ _ _ _ _ _ _ _ _ _ h
    refine dc_calli (va_runV (As := [.long s0, .long v9, .int v4]) (rest := []) ⟨hx, hb, hml, hown, hts⟩ (mCu_hasPart l D K _ s0 v9 v4 h0 a0 o0 _ hq_6) (cwV 3 hts (cf_GV wv_1318 wv_1320 wv_40 wv_160 wv_1321) rfl rfl rfl (by decide +kernel) ⟨Nat.le_of_ble_eq_true rfl, Nat.le_of_ble_eq_true rfl⟩) (dc_preV hE hP hD hS hA rfl 0 rfl) rfl rfl hl.1 rfl (lv_room (Nat.le_of_ble_eq_true rfl)) dCu_joinAll_147 ⟨gC_le hgr_7, gS_le hgr_7⟩) hP hD hS hA (fun r_9 H locs hw_10 hP hD hS => ?_)
    subst r_9
    refine W.widen (k := (gC (phCu os) (phCu o0))) (n := (gS (phCu os) (phCu o0))) (Nat.le_refl _) (Nat.le_refl _) ?_
    exact bCu_joinAll_150 C ih _ _ _ _ _ _ _ _ _ _ _ _ h hg hP hD hS (lv_sub hl [1, 2, 3, 4, 5, 6, 7, 8, 9, 0] rfl)
set_option maxHeartbeats 4000000 in
set_option maxRecDepth 100000 in
theorem bCu_joinAll_98 {p : Program} {l : Launch} {e : Env} {s : State} {m : MethodId} {below : List Frame} {meth : Method} {c : Code} {A : Nat → Prop} {D : va_G} {K : Nat → ClassId} {h0 : Nat} {os : cf_O} {AR : Array Value} (C : (dc_C p s m AR meth c cCu_joinAll 13 (Option.some Jvm.ClassFile.FieldType.boolean) yCu_joinAll ∧ cf_E D K A s s.heap ∧ ∀ q, s.heap.size ≤ q → A q)) {n : Nat} (ih : IhCu_joinAll p l e s m below meth c A D K h0 os AR n) (v1 : Int32) (v2 : Int32) (v3 : Int32) (v4 : Int32) (v5 : Int64) (v7 : Int32) (v8 : Int32) (v9 : Int64) (s0 : Int32) (o0 : cf_O) (r : Int32 × cf_O) (h : fCu_joinAll_98 (gCu_joinAll n) v1 v2 v3 v4 v5 v7 v8 v9 s0 o0 = some r) {a0 : Nat → Nat} {H : Heap} {locs : List Loc} {ls : Array Slot} (hg : phCu os ≤ phCu o0) (hP : va_P D vwCl (wCu K h0 a0 o0) H) (hD : va_D A (wCu K h0 a0 o0)) (hS : va_S A s.heap H locs) (hl : lv_has ls 13 [(0, .ref h0), (1, .int v1), (2, .int v2), (3, .int v3), (4, .int v4), (5, .long v5), (7, .int v7), (8, .int v8), (9, .long v9)]) : W p l e ({ frames := 3, cells := (gC (phCu os) (phCu r.2)), slots := (gS (phCu os) (phCu r.2)), locals := 126 }) s m AR below meth c H locs (gC (phCu os) (phCu o0)) (gS (phCu os) (phCu o0)) (MQ below (va_Qi (fun (x : Int32) (_ : Nat → Nat) => x = r.1) (fun (u : Nat → Nat) t => cf_At D A (wCu K h0 u r.2) t) A) AR s (gC (phCu os) (phCu r.2)) (gS (phCu os) (phCu r.2)) A) (F0 m 98 ls [.int s0]) := by
  obtain ⟨⟨hx, hb, hr, hts, hown, hlocks, hin, hml⟩, hE, hA⟩ := id C
  have hK := hE.k
  refine lv_iload_n hx hb dCu_joinAll_98 rfl (lv_at hl 3 rfl) ?_
  refine lv_icmp_le (tgt := 106) hx hb dCu_joinAll_99 (by decide) (fun c_1 => ?_) (fun c_1 => ?_)
  · have h := op_t c_1 h
    refine lv_aload_n hx hb dCu_joinAll_106 rfl (lv_at hl 0 rfl) ?_
    refine va_get (D := D) (ci := 5) (v := .ref (a0 4)) (C := RCu) (T := TCu) (N := 6) hx hb hts inCu hown hK hP 0 rfl rfl 4 (by decide) (hts _ wv_270) (fun _ h9 => h9) rfl dCu_joinAll_107 ?_
    refine lv_iload hx hb dCu_joinAll_110 (lv_at hl 6 rfl) ?_
    obtain ⟨hi_2, h⟩ := op_n h
    refine va_lald (D := D) hx hb hK hP 3 1 rfl rfl hi_2 dCu_joinAll_112 ?_
    refine lv_topl (fun x_3 ex_3 => ?_)
    have h := op_ks ex_3 h
    refine lv_aload_n hx hb dCu_joinAll_113 rfl (lv_at hl 0 rfl) ?_
    refine va_get (D := D) (ci := 5) (v := .ref (a0 4)) (C := RCu) (T := TCu) (N := 6) hx hb hts inCu hown hK hP 0 rfl rfl 4 (by decide) (hts _ wv_270) (fun _ h9 => h9) rfl dCu_joinAll_114 ?_
    refine lv_iload hx hb dCu_joinAll_117 (lv_at hl 7 rfl) ?_
    obtain ⟨hi_4, h⟩ := op_n h
    refine va_lald (D := D) hx hb hK hP 3 1 rfl rfl hi_4 dCu_joinAll_119 ?_
    refine lv_topl (fun x_5 ex_5 => ?_)
    have h := op_ks ex_5 h
    refine lv_iload_n hx hb dCu_joinAll_120 rfl (lv_at hl 3 rfl) ?_
    obtain ⟨q_6, hq_6, h⟩ := op_b h
    have hgr_7 : phCu o0 ≤ phCu r.2 := nCu_joinAll_124 (niCu_joinAll n) _ _ _ _ _ _ _ _ _ _ _ h
    refine cf_pcalll (va_runS (As := [.long x_3, .long x_5, .int v3]) (rest := []) ⟨hx, hb, hml, hown, hts⟩ (mCu_join l x_3 x_5 v3 _ hq_6) (va_cwS 3 hts (cf_GS wv_1311 wv_1312 wv_160 wv_1313) rfl rfl rfl (by decide +kernel) ⟨Nat.le_of_ble_eq_true rfl, Nat.le_of_ble_eq_true rfl⟩) preEq rfl rfl hl.1 rfl (lv_room (Nat.le_of_ble_eq_true rfl)) dCu_joinAll_121 ⟨gC_le hgr_7, gS_le hgr_7⟩) (fun r_9 hw_10 => ?_)
    subst r_9
    refine W.widen (k := (gC (phCu os) (phCu o0))) (n := (gS (phCu os) (phCu o0))) (Nat.le_refl _) (Nat.le_refl _) ?_
    exact bCu_joinAll_124 C ih _ _ _ _ _ _ _ _ _ _ _ h hg hP hD hS (lv_sub hl [0, 1, 2, 3, 4, 5, 6, 7, 8] rfl)
  · have h := op_f c_1 h
    refine lv_lconst (v := 0) hx hb dCu_joinAll_102 (by decide) ?_
    refine lv_goto (tgt := 124) hx hb dCu_joinAll_103 (by decide) ?_
    exact bCu_joinAll_124 C ih _ _ _ _ _ _ _ _ _ _ _ h hg hP hD hS (lv_sub hl [0, 1, 2, 3, 4, 5, 6, 7, 8] rfl)
set_option maxHeartbeats 4000000 in
set_option maxRecDepth 100000 in
theorem bCu_joinAll_50 {p : Program} {l : Launch} {e : Env} {s : State} {m : MethodId} {below : List Frame} {meth : Method} {c : Code} {A : Nat → Prop} {D : va_G} {K : Nat → ClassId} {h0 : Nat} {os : cf_O} {AR : Array Value} (C : (dc_C p s m AR meth c cCu_joinAll 13 (Option.some Jvm.ClassFile.FieldType.boolean) yCu_joinAll ∧ cf_E D K A s s.heap ∧ ∀ q, s.heap.size ≤ q → A q)) {n : Nat} (ih : IhCu_joinAll p l e s m below meth c A D K h0 os AR n) (v1 : Int32) (v2 : Int32) (v3 : Int32) (v4 : Int32) (v5 : Int64) (v7 : Int32) (v8 : Int32) (o0 : cf_O) (r : Int32 × cf_O) (h : fCu_joinAll_50 (gCu_joinAll n) v1 v2 v3 v4 v5 v7 v8 o0 = some r) {a0 : Nat → Nat} {H : Heap} {locs : List Loc} {ls : Array Slot} (hg : phCu os ≤ phCu o0) (hP : va_P D vwCl (wCu K h0 a0 o0) H) (hD : va_D A (wCu K h0 a0 o0)) (hS : va_S A s.heap H locs) (hl : lv_has ls 13 [(0, .ref h0), (1, .int v1), (2, .int v2), (3, .int v3), (4, .int v4), (5, .long v5), (7, .int v7), (8, .int v8)]) : W p l e ({ frames := 3, cells := (gC (phCu os) (phCu r.2)), slots := (gS (phCu os) (phCu r.2)), locals := 126 }) s m AR below meth c H locs (gC (phCu os) (phCu o0)) (gS (phCu os) (phCu o0)) (MQ below (va_Qi (fun (x : Int32) (_ : Nat → Nat) => x = r.1) (fun (u : Nat → Nat) t => cf_At D A (wCu K h0 u r.2) t) A) AR s (gC (phCu os) (phCu r.2)) (gS (phCu os) (phCu r.2)) A) (F0 m 50 ls []) := by
  obtain ⟨⟨hx, hb, hr, hts, hown, hlocks, hin, hml⟩, hE, hA⟩ := id C
  have hK := hE.k
  refine lv_iload hx hb dCu_joinAll_50 (lv_at hl 7 rfl) ?_
  refine lv_aload_n hx hb dCu_joinAll_52 rfl (lv_at hl 0 rfl) ?_
  refine va_get (D := D) (ci := 5) (v := .ref (a0 2)) (C := RCu) (T := TCu) (N := 6) hx hb hts inCu hown hK hP 0 rfl rfl 2 (by decide) (hts _ wv_268) (fun _ h9 => h9) rfl dCu_joinAll_53 ?_
  refine lv_iload_n hx hb dCu_joinAll_56 rfl (lv_at hl 2 rfl) ?_
  refine lv_iconst (v := 1) hx hb dCu_joinAll_57 (by decide) ?_
  refine lv_iadd hx hb dCu_joinAll_58 ?_
  refine lv_topi (fun x_1 ex_1 => ?_)
  have h := op_ks ex_1 h
  obtain ⟨hi_2, h⟩ := op_n h
  refine va_iald (D := D) hx hb hK hP 2 0 rfl rfl hi_2 dCu_joinAll_59 ?_
  refine lv_topi (fun x_3 ex_3 => ?_)
  have h := op_ks ex_3 h
  refine lv_icmp_ge (tgt := 185) hx hb dCu_joinAll_60 (by decide) (fun c_4 => ?_) (fun c_4 => ?_)
  · have h := op_t c_4 h
    exact bCu_joinAll_185 C ih _ _ _ _ _ _ _ _ h hg hP hD hS (lv_sub hl [0, 1, 2, 3, 4, 5, 6] rfl)
  · have h := op_f c_4 h
    refine lv_aload_n hx hb dCu_joinAll_63 rfl (lv_at hl 0 rfl) ?_
    refine va_get (D := D) (ci := 5) (v := .ref (a0 4)) (C := RCu) (T := TCu) (N := 6) hx hb hts inCu hown hK hP 0 rfl rfl 4 (by decide) (hts _ wv_270) (fun _ h9 => h9) rfl dCu_joinAll_64 ?_
    refine lv_iload hx hb dCu_joinAll_67 (lv_at hl 7 rfl) ?_
    obtain ⟨hi_5, h⟩ := op_n h
    refine va_lald (D := D) hx hb hK hP 3 1 rfl rfl hi_5 dCu_joinAll_69 ?_
    refine lv_topl (fun x_6 ex_6 => ?_)
    have h := op_ks ex_6 h
    refine lv_lload hx hb dCu_joinAll_70 (lv_at hl 5 rfl) ?_
    refine W.lcmp hx hb dCu_joinAll_72 ?_
    refine lv_topi (fun x_7 ex_7 => ?_)
    have h := op_ks ex_7 h
    refine lv_if_ge (tgt := 185) hx hb dCu_joinAll_73 (by decide) (fun c_8 => ?_) (fun c_8 => ?_)
    · have h := op_t c_8 h
      exact bCu_joinAll_185 C ih _ _ _ _ _ _ _ _ h hg hP hD hS (lv_sub hl [0, 1, 2, 3, 4, 5, 6] rfl)
    · have h := op_f c_8 h
      refine lv_aload_n hx hb dCu_joinAll_76 rfl (lv_at hl 0 rfl) ?_
      refine va_get (D := D) (ci := 5) (v := .ref (a0 5)) (C := RCu) (T := TCu) (N := 6) hx hb hts inCu hown hK hP 0 rfl rfl 5 (by decide) (hts _ wv_271) (fun _ h9 => h9) rfl dCu_joinAll_77 ?_
      refine lv_iload hx hb dCu_joinAll_80 (lv_at hl 6 rfl) ?_
      obtain ⟨hi_9, h⟩ := op_n h
      refine va_lald (D := D) hx hb hK hP 4 1 rfl rfl hi_9 dCu_joinAll_82 ?_
      refine lv_topl (fun x_10 ex_10 => ?_)
      have h := op_ks ex_10 h
      refine lv_aload_n hx hb dCu_joinAll_83 rfl (lv_at hl 0 rfl) ?_
      refine va_get (D := D) (ci := 5) (v := .ref (a0 5)) (C := RCu) (T := TCu) (N := 6) hx hb hts inCu hown hK hP 0 rfl rfl 5 (by decide) (hts _ wv_271) (fun _ h9 => h9) rfl dCu_joinAll_84 ?_
      refine lv_iload hx hb dCu_joinAll_87 (lv_at hl 7 rfl) ?_
      obtain ⟨hi_11, h⟩ := op_n h
      refine va_lald (D := D) hx hb hK hP 4 1 rfl rfl hi_11 dCu_joinAll_89 ?_
      refine lv_topl (fun x_12 ex_12 => ?_)
      have h := op_ks ex_12 h
      refine lv_lor hx hb dCu_joinAll_90 ?_
      refine lv_topl (fun x_13 ex_13 => ?_)
      have h := op_ks ex_13 h
      refine lv_lstore (lv' := [(9, .long x_13), (0, .ref h0), (1, .int v1), (2, .int v2), (3, .int v3), (4, .int v4), (5, .long v5), (7, .int v7), (8, .int v8)]) hx hb dCu_joinAll_91 hl (by decide) rfl (fun ls hl => ?_)
      refine lv_lload hx hb dCu_joinAll_93 (lv_at hl 0 rfl) ?_
      obtain ⟨q_14, hq_14, h⟩ := op_b h
      have hgr_15 : phCu o0 ≤ phCu r.2 := nCu_joinAll_98 (niCu_joinAll n) _ _ _ _ _ _ _ _ _ _ _ h
      refine cf_pcalli (va_runS (As := [.long x_13]) (rest := []) ⟨hx, hb, hml, hown, hts⟩ (mJLong_bitCount_J l x_13 _ hq_14) (va_cwS 1 hts (cf_GS wv_1305 wv_1306 wv_185 wv_1307) rfl rfl rfl (by decide +kernel) ⟨Nat.le_of_ble_eq_true rfl, Nat.le_of_ble_eq_true rfl⟩) preEq rfl rfl hl.1 rfl (lv_room (Nat.le_of_ble_eq_true rfl)) dCu_joinAll_95 ⟨gC_le hgr_15, gS_le hgr_15⟩) (fun r_17 hw_18 => ?_)
      subst r_17
      refine W.widen (k := (gC (phCu os) (phCu o0))) (n := (gS (phCu os) (phCu o0))) (Nat.le_refl _) (Nat.le_refl _) ?_
      exact bCu_joinAll_98 C ih _ _ _ _ _ _ _ _ _ _ _ h hg hP hD hS (lv_sub hl [1, 2, 3, 4, 5, 6, 7, 8, 0] rfl)
set_option maxHeartbeats 4000000 in
set_option maxRecDepth 100000 in
theorem bCu_joinAll_16 {p : Program} {l : Launch} {e : Env} {s : State} {m : MethodId} {below : List Frame} {meth : Method} {c : Code} {A : Nat → Prop} {D : va_G} {K : Nat → ClassId} {h0 : Nat} {os : cf_O} {AR : Array Value} (C : (dc_C p s m AR meth c cCu_joinAll 13 (Option.some Jvm.ClassFile.FieldType.boolean) yCu_joinAll ∧ cf_E D K A s s.heap ∧ ∀ q, s.heap.size ≤ q → A q)) {n : Nat} (ih : IhCu_joinAll p l e s m below meth c A D K h0 os AR n) (v1 : Int32) (v2 : Int32) (v3 : Int32) (v4 : Int32) (v5 : Int64) (v7 : Int32) (o0 : cf_O) (r : Int32 × cf_O) (h : fCu_joinAll_16 (gCu_joinAll n) v1 v2 v3 v4 v5 v7 o0 = some r) {a0 : Nat → Nat} {H : Heap} {locs : List Loc} {ls : Array Slot} (hg : phCu os ≤ phCu o0) (hP : va_P D vwCl (wCu K h0 a0 o0) H) (hD : va_D A (wCu K h0 a0 o0)) (hS : va_S A s.heap H locs) (hl : lv_has ls 13 [(0, .ref h0), (1, .int v1), (2, .int v2), (3, .int v3), (4, .int v4), (5, .long v5), (7, .int v7)]) : W p l e ({ frames := 3, cells := (gC (phCu os) (phCu r.2)), slots := (gS (phCu os) (phCu r.2)), locals := 126 }) s m AR below meth c H locs (gC (phCu os) (phCu o0)) (gS (phCu os) (phCu o0)) (MQ below (va_Qi (fun (x : Int32) (_ : Nat → Nat) => x = r.1) (fun (u : Nat → Nat) t => cf_At D A (wCu K h0 u r.2) t) A) AR s (gC (phCu os) (phCu r.2)) (gS (phCu os) (phCu r.2)) A) (F0 m 16 ls []) := by
  obtain ⟨⟨hx, hb, hr, hts, hown, hlocks, hin, hml⟩, hE, hA⟩ := id C
  have hK := hE.k
  refine lv_iload hx hb dCu_joinAll_16 (lv_at hl 6 rfl) ?_
  refine lv_aload_n hx hb dCu_joinAll_18 rfl (lv_at hl 0 rfl) ?_
  refine va_get (D := D) (ci := 5) (v := .ref (a0 2)) (C := RCu) (T := TCu) (N := 6) hx hb hts inCu hown hK hP 0 rfl rfl 2 (by decide) (hts _ wv_268) (fun _ h9 => h9) rfl dCu_joinAll_19 ?_
  refine lv_iload_n hx hb dCu_joinAll_22 rfl (lv_at hl 1 rfl) ?_
  refine lv_iconst (v := 1) hx hb dCu_joinAll_23 (by decide) ?_
  refine lv_iadd hx hb dCu_joinAll_24 ?_
  refine lv_topi (fun x_1 ex_1 => ?_)
  have h := op_ks ex_1 h
  obtain ⟨hi_2, h⟩ := op_n h
  refine va_iald (D := D) hx hb hK hP 2 0 rfl rfl hi_2 dCu_joinAll_25 ?_
  refine lv_topi (fun x_3 ex_3 => ?_)
  have h := op_ks ex_3 h
  refine lv_icmp_ge (tgt := 191) hx hb dCu_joinAll_26 (by decide) (fun c_4 => ?_) (fun c_4 => ?_)
  · have h := op_t c_4 h
    exact bCu_joinAll_191 C ih _ _ h hg hP hD hS (lv_sub hl [] rfl)
  · have h := op_f c_4 h
    refine lv_aload_n hx hb dCu_joinAll_29 rfl (lv_at hl 0 rfl) ?_
    refine va_get (D := D) (ci := 5) (v := .ref (a0 4)) (C := RCu) (T := TCu) (N := 6) hx hb hts inCu hown hK hP 0 rfl rfl 4 (by decide) (hts _ wv_270) (fun _ h9 => h9) rfl dCu_joinAll_30 ?_
    refine lv_iload hx hb dCu_joinAll_33 (lv_at hl 6 rfl) ?_
    obtain ⟨hi_5, h⟩ := op_n h
    refine va_lald (D := D) hx hb hK hP 3 1 rfl rfl hi_5 dCu_joinAll_35 ?_
    refine lv_topl (fun x_6 ex_6 => ?_)
    have h := op_ks ex_6 h
    refine lv_lload hx hb dCu_joinAll_36 (lv_at hl 5 rfl) ?_
    refine W.lcmp hx hb dCu_joinAll_38 ?_
    refine lv_topi (fun x_7 ex_7 => ?_)
    have h := op_ks ex_7 h
    refine lv_if_ge (tgt := 191) hx hb dCu_joinAll_39 (by decide) (fun c_8 => ?_) (fun c_8 => ?_)
    · have h := op_t c_8 h
      exact bCu_joinAll_191 C ih _ _ h hg hP hD hS (lv_sub hl [] rfl)
    · have h := op_f c_8 h
      refine lv_aload_n hx hb dCu_joinAll_42 rfl (lv_at hl 0 rfl) ?_
      refine va_get (D := D) (ci := 5) (v := .ref (a0 2)) (C := RCu) (T := TCu) (N := 6) hx hb hts inCu hown hK hP 0 rfl rfl 2 (by decide) (hts _ wv_268) (fun _ h9 => h9) rfl dCu_joinAll_43 ?_
      refine lv_iload_n hx hb dCu_joinAll_46 rfl (lv_at hl 2 rfl) ?_
      obtain ⟨hi_9, h⟩ := op_n h
      refine va_iald (D := D) hx hb hK hP 2 0 rfl rfl hi_9 dCu_joinAll_47 ?_
      refine lv_topi (fun x_10 ex_10 => ?_)
      have h := op_ks ex_10 h
      refine lv_istore (lv' := [(8, .int x_10), (0, .ref h0), (1, .int v1), (2, .int v2), (3, .int v3), (4, .int v4), (5, .long v5), (7, .int v7)]) hx hb dCu_joinAll_48 hl (by decide) rfl (fun ls hl => ?_)
      exact (ih.2) _ _ _ _ _ _ _ _ _ h hg hP hD hS (lv_sub hl [1, 2, 3, 4, 5, 6, 7, 0] rfl)
set_option maxHeartbeats 4000000 in
set_option maxRecDepth 100000 in
theorem bCu_joinAll_0 {p : Program} {l : Launch} {e : Env} {s : State} {m : MethodId} {below : List Frame} {meth : Method} {c : Code} {A : Nat → Prop} {D : va_G} {K : Nat → ClassId} {h0 : Nat} {os : cf_O} {AR : Array Value} (C : (dc_C p s m AR meth c cCu_joinAll 13 (Option.some Jvm.ClassFile.FieldType.boolean) yCu_joinAll ∧ cf_E D K A s s.heap ∧ ∀ q, s.heap.size ≤ q → A q)) {n : Nat} (ih : IhCu_joinAll p l e s m below meth c A D K h0 os AR n) (v1 : Int32) (v2 : Int32) (v3 : Int32) (v4 : Int32) (o0 : cf_O) (r : Int32 × cf_O) (h : fCu_joinAll_0 (gCu_joinAll n) v1 v2 v3 v4 o0 = some r) {a0 : Nat → Nat} {H : Heap} {locs : List Loc} {ls : Array Slot} (hg : phCu os ≤ phCu o0) (hP : va_P D vwCl (wCu K h0 a0 o0) H) (hD : va_D A (wCu K h0 a0 o0)) (hS : va_S A s.heap H locs) (hl : lv_has ls 13 [(0, .ref h0), (1, .int v1), (2, .int v2), (3, .int v3), (4, .int v4)]) : W p l e ({ frames := 3, cells := (gC (phCu os) (phCu r.2)), slots := (gS (phCu os) (phCu r.2)), locals := 126 }) s m AR below meth c H locs (gC (phCu os) (phCu o0)) (gS (phCu os) (phCu o0)) (MQ below (va_Qi (fun (x : Int32) (_ : Nat → Nat) => x = r.1) (fun (u : Nat → Nat) t => cf_At D A (wCu K h0 u r.2) t) A) AR s (gC (phCu os) (phCu r.2)) (gS (phCu os) (phCu r.2)) A) (F0 m 0 ls []) := by
  obtain ⟨⟨hx, hb, hr, hts, hown, hlocks, hin, hml⟩, hE, hA⟩ := id C
  have hK := hE.k
  refine lv_lconst (v := 1) hx hb dCu_joinAll_0 (by decide) ?_
  refine lv_bipush (v := 8) hx hb dCu_joinAll_1 (by decide) ?_
  refine lv_iload_n hx hb dCu_joinAll_3 rfl (lv_at hl 3 rfl) ?_
  refine lv_imul hx hb dCu_joinAll_4 ?_
  refine lv_topi (fun x_1 ex_1 => ?_)
  have h := op_ks ex_1 h
  refine lv_lshl hx hb dCu_joinAll_5 rfl ?_
  refine lv_topl (fun x_2 ex_2 => ?_)
  have h := op_ks ex_2 h
  refine lv_lstore (lv' := [(5, .long x_2), (0, .ref h0), (1, .int v1), (2, .int v2), (3, .int v3), (4, .int v4)]) hx hb dCu_joinAll_6 hl (by decide) rfl (fun ls hl => ?_)
  refine lv_aload_n hx hb dCu_joinAll_8 rfl (lv_at hl 1 rfl) ?_
  refine va_get (D := D) (ci := 5) (v := .ref (a0 2)) (C := RCu) (T := TCu) (N := 6) hx hb hts inCu hown hK hP 0 rfl rfl 2 (by decide) (hts _ wv_268) (fun _ h9 => h9) rfl dCu_joinAll_9 ?_
  refine lv_iload_n hx hb dCu_joinAll_12 rfl (lv_at hl 2 rfl) ?_
  obtain ⟨hi_3, h⟩ := op_n h
  refine va_iald (D := D) hx hb hK hP 2 0 rfl rfl hi_3 dCu_joinAll_13 ?_
  refine lv_topi (fun x_4 ex_4 => ?_)
  have h := op_ks ex_4 h
  refine lv_istore (lv' := [(7, .int x_4), (5, .long x_2), (0, .ref h0), (1, .int v1), (2, .int v2), (3, .int v3), (4, .int v4)]) hx hb dCu_joinAll_14 hl (by decide) rfl (fun ls hl => ?_)
  exact (ih.1) _ _ _ _ _ _ _ _ h hg hP hD hS (lv_sub hl [2, 3, 4, 5, 6, 1, 0] rfl)
theorem iCu_joinAll {p : Program} {l : Launch} {e : Env} {s : State} {m : MethodId} {below : List Frame} {meth : Method} {c : Code} {A : Nat → Prop} {D : va_G} {K : Nat → ClassId} {h0 : Nat} {os : cf_O} {AR : Array Value} (C : (dc_C p s m AR meth c cCu_joinAll 13 (Option.some Jvm.ClassFile.FieldType.boolean) yCu_joinAll ∧ cf_E D K A s s.heap ∧ ∀ q, s.heap.size ≤ q → A q)) : ∀ n, IhCu_joinAll p l e s m below meth c A D K h0 os AR n := by
  intro n
  induction n with
  | zero => exact ⟨(fun _ _ _ _ _ _ _ r h => by cases (show none = some r from h)), (fun _ _ _ _ _ _ _ _ r h => by cases (show none = some r from h))⟩
  | succ n ih => exact ⟨fun x0 x1 x2 x3 x4 x5 x6 r h _ _ _ _ hg hP hD hS hl => bCu_joinAll_16 C ih x0 x1 x2 x3 x4 x5 x6 r h hg hP hD hS hl, fun x0 x1 x2 x3 x4 x5 x6 x7 r h _ _ _ _ hg hP hD hS hl => bCu_joinAll_50 C ih x0 x1 x2 x3 x4 x5 x6 x7 r h hg hP hD hS hl⟩
set_option maxRecDepth 100000 in
theorem mCu_joinAll (l : Launch) (D : va_G) (K : Nat → ClassId) (sz : Nat) (v1 : Int32) (v2 : Int32) (v3 : Int32) (v4 : Int32) (h0 : Nat) (a0 : Nat → Nat) (o0 : cf_O) (r : Int32 × cf_O) (h : fCu_joinAll v1 v2 v3 v4 o0 = some r) : Met l yCu_joinAll (Cond.code yCu_joinAll cCu_joinAll 13 (Option.some Jvm.ClassFile.FieldType.boolean) :: cfB) ({ frames := 3, cells := (gC (phCu o0) (phCu r.2)), slots := (gS (phCu o0) (phCu r.2)), locals := 126 }) (va_Pc [.ref h0, .int v1, .int v2, .int v3, .int v4] (cf_Pre D K sz (wCu K h0 a0 o0))) (va_Qi (fun (x : Int32) (_ : Nat → Nat) => x = r.1) (fun (u : Nat → Nat) t => cf_At D (va_A (wCu K h0 a0 o0) sz) (wCu K h0 u r.2) t) (va_A (wCu K h0 a0 o0) sz)) (gC (phCu o0) (phCu r.2)) (gS (phCu o0) (phCu r.2)) (va_A (wCu K h0 a0 o0) sz) := by
  refine cf_ofW (y := yCu_joinAll) (As := [.ref h0, .int v1, .int v2, .int v3, .int v4]) (WS := wCu K h0 a0 o0) (maxL := 13) (fun A => (va_Qi (fun (x : Int32) (_ : Nat → Nat) => x = r.1) (fun (u : Nat → Nat) t => cf_At D A (wCu K h0 u r.2) t) A)) (by decide) (Nat.le_of_ble_eq_true rfl) ?_
  intro p e s m below meth c A ls En hsz hA hP hD hE hS hl
  have C : (dc_C p s m (([.ref h0, .int v1, .int v2, .int v3, .int v4] : List Value).toArray) meth c cCu_joinAll 13 (Option.some Jvm.ClassFile.FieldType.boolean) yCu_joinAll ∧ cf_E D K A s s.heap ∧ ∀ q, s.heap.size ≤ q → A q) := ⟨En, hE, hA⟩
  refine W.widen (k := gC (phCu o0) (phCu o0)) (n := gS (phCu o0) (phCu o0)) (Nat.zero_le _) (Nat.zero_le _) ?_
  exact bCu_joinAll_0 C (iCu_joinAll C cfFU) v1 v2 v3 v4 o0 r h (Nat.le_refl _) hP hD hS hl
def NICu_findOf (n : Nat) : Prop := (∀ (v2 : Int32) (v3 : Int32) (v4 : Int32) (o0 : cf_O) (o1 : cf_O) (r : Int32 × cf_O), gCu_findOf n 0 v2 v3 v4 0 o0 o1 = some r → phCu o0 ≤ phCu r.2) ∧ (∀ (v2 : Int32) (v4 : Int32) (v5 : Int32) (o0 : cf_O) (o1 : cf_O) (r : Int32 × cf_O), gCu_findOf n 1 v2 0 v4 v5 o0 o1 = some r → phCu o0 ≤ phCu r.2)
set_option maxRecDepth 100000 in
theorem nCu_findOf_90 {n : Nat} (ih : NICu_findOf n) (v2 : Int32) (v5 : Int32) (s0 : Int32) (o0 : cf_O) (o1 : cf_O) (r : Int32 × cf_O) (h : fCu_findOf_90 (gCu_findOf n) v2 v5 s0 o0 o1 = some r) : phCu o0 ≤ phCu r.2 := by
  have hm : phCu o0 ≤ phCu o0 := Nat.le_refl _
  obtain ⟨x_1, ex_1, h⟩ := op_kx h
  exact Nat.le_trans hm ((ih.2) _ _ _ _ _ _ h)
set_option maxRecDepth 100000 in
theorem nCu_findOf_87 {n : Nat} (ih : NICu_findOf n) (v2 : Int32) (v5 : Int32) (s0 : Int32) (s1 : Int32) (o0 : cf_O) (o1 : cf_O) (r : Int32 × cf_O) (h : fCu_findOf_87 (gCu_findOf n) v2 v5 s0 s1 o0 o1 = some r) : phCu o0 ≤ phCu r.2 := by
  have hm : phCu o0 ≤ phCu o0 := Nat.le_refl _
  obtain ⟨x_2, ex_2, h⟩ := op_kx h
  exact Nat.le_trans hm (nCu_findOf_90 ih _ _ _ _ _ _ h)
set_option maxRecDepth 100000 in
theorem nCu_findOf_65 {n : Nat} (ih : NICu_findOf n) (v2 : Int32) (v4 : Int32) (v5 : Int32) (o0 : cf_O) (o1 : cf_O) (r : Int32 × cf_O) (h : fCu_findOf_65 (gCu_findOf n) v2 v4 v5 o0 o1 = some r) : phCu o0 ≤ phCu r.2 := by
  have hm : phCu o0 ≤ phCu o0 := Nat.le_refl _
  rcases (Classical.em ((o0.1 3) ≤ v5)) with c_1 | c_1
  · have h := op_t c_1 h
    obtain ⟨hi_2, h⟩ := op_n h
    obtain ⟨o_3, eo_3, h⟩ := op_kx h
    have hm : phCu o0 ≤ phCu o_3 := by rw [eo_3]; exact hm
    obtain rfl := Option.some.inj h
    exact hm
  · have h := op_f c_1 h
    obtain ⟨hi_5, h⟩ := op_n h
    obtain ⟨x_6, ex_6, h⟩ := op_kx h
    obtain ⟨q_7, hq_7, h⟩ := op_b h
    exact Nat.le_trans hm (nCu_findOf_87 ih _ _ _ _ _ _ _ h)
set_option maxRecDepth 100000 in
theorem nCu_findOf_39 {n : Nat} (ih : NICu_findOf n) (v2 : Int32) (v3 : Int32) (v4 : Int32) (s0 : Int32) (o0 : cf_O) (o1 : cf_O) (r : Int32 × cf_O) (h : fCu_findOf_39 (gCu_findOf n) v2 v3 v4 s0 o0 o1 = some r) : phCu o0 ≤ phCu r.2 := by
  have hm : phCu o0 ≤ phCu o0 := Nat.le_refl _
  rcases (Classical.em (s0 = (0 : Int32))).symm with c_1 | c_1
  · have h := op_f c_1 h
    obtain ⟨x_2, ex_2, h⟩ := op_kx h
    exact Nat.le_trans hm ((ih.1) _ _ _ _ _ _ h)
  · have h := op_t c_1 h
    obtain rfl := Option.some.inj h
    exact hm
set_option maxRecDepth 100000 in
theorem nCu_findOf_3 {n : Nat} (ih : NICu_findOf n) (v2 : Int32) (v3 : Int32) (v4 : Int32) (o0 : cf_O) (o1 : cf_O) (r : Int32 × cf_O) (h : fCu_findOf_3 (gCu_findOf n) v2 v3 v4 o0 o1 = some r) : phCu o0 ≤ phCu r.2 := by
  have hm : phCu o0 ≤ phCu o0 := Nat.le_refl _
  rcases (Classical.em (v3 < v4)) with c_1 | c_1
  · have h := op_t c_1 h
    obtain ⟨hi_2, h⟩ := op_n h
    obtain ⟨x_3, ex_3, h⟩ := op_kx h
    obtain ⟨x_4, ex_4, h⟩ := op_kx h
    exact Nat.le_trans hm ((ih.2) _ _ _ _ _ _ h)
  · have h := op_f c_1 h
    obtain ⟨hi_5, h⟩ := op_n h
    obtain ⟨x_6, ex_6, h⟩ := op_kx h
    obtain ⟨x_7, ex_7, h⟩ := op_kx h
    obtain ⟨hi_8, h⟩ := op_n h
    obtain ⟨x_9, ex_9, h⟩ := op_kx h
    obtain ⟨x_10, ex_10, h⟩ := op_kx h
    obtain ⟨hi_11, h⟩ := op_n h
    obtain ⟨x_12, ex_12, h⟩ := op_kx h
    obtain ⟨x_13, ex_13, h⟩ := op_kx h
    obtain ⟨q_14, hq_14, h⟩ := op_b h
    have hm : phCu o0 ≤ phCu q_14.2 := Nat.le_trans hm (nCu_joinAll _ _ _ _ _ _ hq_14)
    exact Nat.le_trans hm (nCu_findOf_39 ih _ _ _ _ _ _ _ h)
set_option maxRecDepth 100000 in
theorem nCu_findOf_0 {n : Nat} (ih : NICu_findOf n) (v2 : Int32) (v3 : Int32) (o0 : cf_O) (o1 : cf_O) (r : Int32 × cf_O) (h : fCu_findOf_0 (gCu_findOf n) v2 v3 o0 o1 = some r) : phCu o0 ≤ phCu r.2 := by
  have hm : phCu o0 ≤ phCu o0 := Nat.le_refl _
  exact Nat.le_trans hm ((ih.1) _ _ _ _ _ _ h)
theorem niCu_findOf : ∀ n, NICu_findOf n := by
  intro n
  induction n with
  | zero => exact ⟨(fun _ _ _ _ _ r h => by cases (show none = some r from h)), (fun _ _ _ _ _ r h => by cases (show none = some r from h))⟩
  | succ n ih => exact ⟨fun x0 x1 x2 x3 x4 r h => nCu_findOf_3 ih x0 x1 x2 x3 x4 r h, fun x0 x1 x2 x3 x4 r h => nCu_findOf_65 ih x0 x1 x2 x3 x4 r h⟩
theorem nCu_findOf (v2 : Int32) (v3 : Int32) (o0 : cf_O) (o1 : cf_O) (r : Int32 × cf_O) (h : fCu_findOf v2 v3 o0 o1 = some r) : phCu o0 ≤ phCu r.2 := nCu_findOf_0 (niCu_findOf cfFU) v2 v3 o0 o1 r h
def IhCu_findOf (p : Program) (l : Launch) (e : Env) (s : State) (m : MethodId) (below : List Frame) (meth : Method) (c : Code) (A : Nat → Prop) (D : va_G) (K : Nat → ClassId) (h0 : Nat) (h1 : Nat) (a1 : Nat → Nat) (os : cf_O) (AR : Array Value) (n : Nat) : Prop := (∀ (v2 : Int32) (v3 : Int32) (v4 : Int32) (o0 : cf_O) (o1 : cf_O) (r : Int32 × cf_O), gCu_findOf n 0 v2 v3 v4 0 o0 o1 = some r → ∀ {a0 : Nat → Nat} {H : Heap} {locs : List Loc} {ls : Array Slot}, (phCu os ≤ phCu o0) → (va_P D vwCl (wCu K h0 a0 o0 ++ wGr K h1 a1 o1) H) → (va_D A (wCu K h0 a0 o0 ++ wGr K h1 a1 o1)) → va_S A s.heap H locs → lv_has ls 6 [(0, .ref h0), (1, .ref h1), (2, .int v2), (3, .int v3), (4, .int v4)] → W p l e ({ frames := 4, cells := (gC (phCu os) (phCu r.2)), slots := (gS (phCu os) (phCu r.2)), locals := 158 }) s m AR below meth c H locs (gC (phCu os) (phCu o0)) (gS (phCu os) (phCu o0)) (MQ below (va_Qi (fun (x : Int32) (_ : Nat → Nat) => x = r.1) (fun (u : Nat → Nat) t => cf_At D A (wCu K h0 u r.2 ++ wGr K h1 a1 o1) t) A) AR s (gC (phCu os) (phCu r.2)) (gS (phCu os) (phCu r.2)) A) (F0 m 3 ls [])) ∧ (∀ (v2 : Int32) (v4 : Int32) (v5 : Int32) (o0 : cf_O) (o1 : cf_O) (r : Int32 × cf_O), gCu_findOf n 1 v2 0 v4 v5 o0 o1 = some r → ∀ {a0 : Nat → Nat} {H : Heap} {locs : List Loc} {ls : Array Slot}, (phCu os ≤ phCu o0) → (va_P D vwCl (wCu K h0 a0 o0 ++ wGr K h1 a1 o1) H) → (va_D A (wCu K h0 a0 o0 ++ wGr K h1 a1 o1)) → va_S A s.heap H locs → lv_has ls 6 [(0, .ref h0), (2, .int v2), (4, .int v4), (5, .int v5)] → W p l e ({ frames := 4, cells := (gC (phCu os) (phCu r.2)), slots := (gS (phCu os) (phCu r.2)), locals := 158 }) s m AR below meth c H locs (gC (phCu os) (phCu o0)) (gS (phCu os) (phCu o0)) (MQ below (va_Qi (fun (x : Int32) (_ : Nat → Nat) => x = r.1) (fun (u : Nat → Nat) t => cf_At D A (wCu K h0 u r.2 ++ wGr K h1 a1 o1) t) A) AR s (gC (phCu os) (phCu r.2)) (gS (phCu os) (phCu r.2)) A) (F0 m 65 ls []))
set_option maxHeartbeats 4000000 in
set_option maxRecDepth 100000 in
theorem bCu_findOf_90 {p : Program} {l : Launch} {e : Env} {s : State} {m : MethodId} {below : List Frame} {meth : Method} {c : Code} {A : Nat → Prop} {D : va_G} {K : Nat → ClassId} {h0 : Nat} {h1 : Nat} {a1 : Nat → Nat} {os : cf_O} {AR : Array Value} (C : (dc_C p s m AR meth c cCu_findOf 6 (Option.some Jvm.ClassFile.FieldType.boolean) yCu_findOf ∧ cf_E D K A s s.heap ∧ ∀ q, s.heap.size ≤ q → A q)) {n : Nat} (ih : IhCu_findOf p l e s m below meth c A D K h0 h1 a1 os AR n) (v2 : Int32) (v5 : Int32) (s0 : Int32) (o0 : cf_O) (o1 : cf_O) (r : Int32 × cf_O) (h : fCu_findOf_90 (gCu_findOf n) v2 v5 s0 o0 o1 = some r) {a0 : Nat → Nat} {H : Heap} {locs : List Loc} {ls : Array Slot} (hg : phCu os ≤ phCu o0) (hP : va_P D vwCl (wCu K h0 a0 o0 ++ wGr K h1 a1 o1) H) (hD : va_D A (wCu K h0 a0 o0 ++ wGr K h1 a1 o1)) (hS : va_S A s.heap H locs) (hl : lv_has ls 6 [(0, .ref h0), (2, .int v2), (5, .int v5)]) : W p l e ({ frames := 4, cells := (gC (phCu os) (phCu r.2)), slots := (gS (phCu os) (phCu r.2)), locals := 158 }) s m AR below meth c H locs (gC (phCu os) (phCu o0)) (gS (phCu os) (phCu o0)) (MQ below (va_Qi (fun (x : Int32) (_ : Nat → Nat) => x = r.1) (fun (u : Nat → Nat) t => cf_At D A (wCu K h0 u r.2 ++ wGr K h1 a1 o1) t) A) AR s (gC (phCu os) (phCu r.2)) (gS (phCu os) (phCu r.2)) A) (F0 m 90 ls [.int s0]) := by
  obtain ⟨⟨hx, hb, hr, hts, hown, hlocks, hin, hml⟩, hE, hA⟩ := id C
  have hK := hE.k
  refine lv_istore (lv' := [(4, .int s0), (0, .ref h0), (2, .int v2), (5, .int v5)]) hx hb dCu_findOf_90 hl (by decide) rfl (fun ls hl => ?_)
  obtain ⟨x_1, ex_1⟩ : ∃ y : Int32, y = v5 + 1 := ⟨_, rfl⟩
  refine lv_iinc (v := x_1) (lv' := [(5, .int x_1), (4, .int s0), (0, .ref h0), (2, .int v2)]) hx hb dCu_findOf_92 hl (k := 3) rfl (by rw [ex_1]; rfl) (by decide) rfl (fun ls hl => ?_)
  have h := op_ks ex_1 h
  refine lv_goto (tgt := 65) hx hb dCu_findOf_95 (by decide) ?_
  exact (ih.2) _ _ _ _ _ _ h hg hP hD hS (lv_sub hl [2, 3, 1, 0] rfl)
set_option maxHeartbeats 4000000 in
set_option maxRecDepth 100000 in
theorem bCu_findOf_87 {p : Program} {l : Launch} {e : Env} {s : State} {m : MethodId} {below : List Frame} {meth : Method} {c : Code} {A : Nat → Prop} {D : va_G} {K : Nat → ClassId} {h0 : Nat} {h1 : Nat} {a1 : Nat → Nat} {os : cf_O} {AR : Array Value} (C : (dc_C p s m AR meth c cCu_findOf 6 (Option.some Jvm.ClassFile.FieldType.boolean) yCu_findOf ∧ cf_E D K A s s.heap ∧ ∀ q, s.heap.size ≤ q → A q)) {n : Nat} (ih : IhCu_findOf p l e s m below meth c A D K h0 h1 a1 os AR n) (v2 : Int32) (v5 : Int32) (s0 : Int32) (s1 : Int32) (o0 : cf_O) (o1 : cf_O) (r : Int32 × cf_O) (h : fCu_findOf_87 (gCu_findOf n) v2 v5 s0 s1 o0 o1 = some r) {a0 : Nat → Nat} {H : Heap} {locs : List Loc} {ls : Array Slot} (hg : phCu os ≤ phCu o0) (hP : va_P D vwCl (wCu K h0 a0 o0 ++ wGr K h1 a1 o1) H) (hD : va_D A (wCu K h0 a0 o0 ++ wGr K h1 a1 o1)) (hS : va_S A s.heap H locs) (hl : lv_has ls 6 [(0, .ref h0), (2, .int v2), (5, .int v5)]) : W p l e ({ frames := 4, cells := (gC (phCu os) (phCu r.2)), slots := (gS (phCu os) (phCu r.2)), locals := 158 }) s m AR below meth c H locs (gC (phCu os) (phCu o0)) (gS (phCu os) (phCu o0)) (MQ below (va_Qi (fun (x : Int32) (_ : Nat → Nat) => x = r.1) (fun (u : Nat → Nat) t => cf_At D A (wCu K h0 u r.2 ++ wGr K h1 a1 o1) t) A) AR s (gC (phCu os) (phCu r.2)) (gS (phCu os) (phCu r.2)) A) (F0 m 87 ls [.int s1, .int s0]) := by
  obtain ⟨⟨hx, hb, hr, hts, hown, hlocks, hin, hml⟩, hE, hA⟩ := id C
  have hK := hE.k
  have hgr_1 : phCu o0 ≤ phCu r.2 := nCu_findOf_90 (niCu_findOf n) _ _ _ _ _ _ (op_ks rfl h)
  refine va_mmin (x := s0) (y := s1) hx hb (hml.trans hl.1.symm) hown (hts _ wv_1331) (hts _ wv_1059) (hts _ wv_182) (hts _ wv_1060) (Nat.le_of_ble_eq_true rfl) (Nat.le_of_ble_eq_true rfl) (gC_le hgr_1) (gS_le hgr_1) dCu_findOf_87 ?_
  refine lv_topi (fun x_2 ex_2 => ?_)
  have h := op_ks ex_2 h
  exact bCu_findOf_90 C ih _ _ _ _ _ _ h hg hP hD hS (lv_sub hl [0, 1, 2] rfl)
set_option maxHeartbeats 4000000 in
set_option maxRecDepth 100000 in
theorem bCu_findOf_65 {p : Program} {l : Launch} {e : Env} {s : State} {m : MethodId} {below : List Frame} {meth : Method} {c : Code} {A : Nat → Prop} {D : va_G} {K : Nat → ClassId} {h0 : Nat} {h1 : Nat} {a1 : Nat → Nat} {os : cf_O} {AR : Array Value} (C : (dc_C p s m AR meth c cCu_findOf 6 (Option.some Jvm.ClassFile.FieldType.boolean) yCu_findOf ∧ cf_E D K A s s.heap ∧ ∀ q, s.heap.size ≤ q → A q)) {n : Nat} (ih : IhCu_findOf p l e s m below meth c A D K h0 h1 a1 os AR n) (v2 : Int32) (v4 : Int32) (v5 : Int32) (o0 : cf_O) (o1 : cf_O) (r : Int32 × cf_O) (h : fCu_findOf_65 (gCu_findOf n) v2 v4 v5 o0 o1 = some r) {a0 : Nat → Nat} {H : Heap} {locs : List Loc} {ls : Array Slot} (hg : phCu os ≤ phCu o0) (hP : va_P D vwCl (wCu K h0 a0 o0 ++ wGr K h1 a1 o1) H) (hD : va_D A (wCu K h0 a0 o0 ++ wGr K h1 a1 o1)) (hS : va_S A s.heap H locs) (hl : lv_has ls 6 [(0, .ref h0), (2, .int v2), (4, .int v4), (5, .int v5)]) : W p l e ({ frames := 4, cells := (gC (phCu os) (phCu r.2)), slots := (gS (phCu os) (phCu r.2)), locals := 158 }) s m AR below meth c H locs (gC (phCu os) (phCu o0)) (gS (phCu os) (phCu o0)) (MQ below (va_Qi (fun (x : Int32) (_ : Nat → Nat) => x = r.1) (fun (u : Nat → Nat) t => cf_At D A (wCu K h0 u r.2 ++ wGr K h1 a1 o1) t) A) AR s (gC (phCu os) (phCu r.2)) (gS (phCu os) (phCu r.2)) A) (F0 m 65 ls []) := by
  obtain ⟨⟨hx, hb, hr, hts, hown, hlocks, hin, hml⟩, hE, hA⟩ := id C
  have hK := hE.k
  refine lv_iload hx hb dCu_findOf_65 (lv_at hl 3 rfl) ?_
  refine lv_aload_n hx hb dCu_findOf_67 rfl (lv_at hl 0 rfl) ?_
  refine va_get (D := D) (ci := 5) (v := .int (o0.1 3)) (C := RCu) (T := TCu) (N := 6) hx hb hts inCu hown hK hP 0 rfl rfl 3 (by decide) (hts _ wv_269) (fun _ h9 => h9) rfl dCu_findOf_68 ?_
  refine lv_icmp_ge (tgt := 98) hx hb dCu_findOf_71 (by decide) (fun c_1 => ?_) (fun c_1 => ?_)
  · have h := op_t c_1 h
    refine lv_aload_n hx hb dCu_findOf_98 rfl (lv_at hl 0 rfl) ?_
    refine va_get (D := D) (ci := 5) (v := .ref (a0 1)) (C := RCu) (T := TCu) (N := 6) hx hb hts inCu hown hK hP 0 rfl rfl 1 (by decide) (hts _ wv_266) (fun _ h9 => h9) rfl dCu_findOf_99 ?_
    refine lv_iload_n hx hb dCu_findOf_102 rfl (lv_at hl 1 rfl) ?_
    refine lv_iload hx hb dCu_findOf_103 (lv_at hl 2 rfl) ?_
    obtain ⟨hi_2, h⟩ := op_n h
    refine va_iast (D := D) hx hb hK hP hD hS 1 0 rfl rfl hi_2 dCu_findOf_105 (fun H locs hP hD hS => ?_)
    have hP : va_P D vwCl (wCu K h0 a0 (xp o0 1 v2.toNatClampNeg v4) ++ wGr K h1 a1 o1) H := hP
    have hD : va_D A (wCu K h0 a0 (xp o0 1 v2.toNatClampNeg v4) ++ wGr K h1 a1 o1) := hD
    obtain ⟨o_3, eo_3, h⟩ := op_kx h
    rw [← eo_3] at hP hD
    have hf_4 : phCu o_3 = phCu o0 := by rw [eo_3]; rfl
    refine W.widen (k := (gC (phCu os) (phCu o_3))) (n := (gS (phCu os) (phCu o_3))) (by rw [hf_4]; exact Nat.le_refl _) (by rw [hf_4]; exact Nat.le_refl _) ?_
    have hg : phCu os ≤ phCu o_3 := by rw [hf_4]; exact hg
    refine lv_iconst (v := 1) hx hb dCu_findOf_106 (by decide) ?_
    obtain rfl := Option.some.inj h
    exact dc_zretG a0 hx hb hr rfl hlocks rfl hP hD hS dCu_findOf_107
  · have h := op_f c_1 h
    refine lv_iload hx hb dCu_findOf_74 (lv_at hl 2 rfl) ?_
    refine lv_aload_n hx hb dCu_findOf_76 rfl (lv_at hl 0 rfl) ?_
    refine lv_aload_n hx hb dCu_findOf_77 rfl (lv_at hl 0 rfl) ?_
    refine va_get (D := D) (ci := 5) (v := .ref (a0 4)) (C := RCu) (T := TCu) (N := 6) hx hb hts inCu hown hK hP 0 rfl rfl 4 (by decide) (hts _ wv_270) (fun _ h9 => h9) rfl dCu_findOf_78 ?_
    refine lv_iload hx hb dCu_findOf_81 (lv_at hl 3 rfl) ?_
    obtain ⟨hi_5, h⟩ := op_n h
    refine va_lald (D := D) hx hb hK hP 3 1 rfl rfl hi_5 dCu_findOf_83 ?_
    refine lv_topl (fun x_6 ex_6 => ?_)
    have h := op_ks ex_6 h
    obtain ⟨q_7, hq_7, h⟩ := op_b h
    have hgr_8 : phCu o0 ≤ phCu r.2 := nCu_findOf_87 (niCu_findOf n) _ _ _ _ _ _ _ h
    refine cf_calli (wc := wCu K h0 a0 o0) (wr := wGr K h1 a1 o1) (va_runV (As := [.long x_6]) (rest := [.int v4]) ⟨hx, hb, hml, hown, hts⟩ (mCu_depthOf l D K _ x_6 h0 a0 o0 _ hq_7) (cwV 1 hts (cf_GV wv_1326 wv_1327 wv_1328 wv_160 wv_1329) rfl rfl rfl (by decide +kernel) ⟨Nat.le_of_ble_eq_true rfl, Nat.le_of_ble_eq_true rfl⟩) (cf_preV (wc := wCu K h0 a0 o0) hE hP hD hS hA rfl 0 rfl [0, 1, 2, 3, 4] rfl (by decide +kernel)) rfl rfl hl.1 rfl (lv_room (Nat.le_of_ble_eq_true rfl)) dCu_findOf_84 ⟨gC_le hgr_8, gS_le hgr_8⟩) hP hD hS hA [0, 1, 2, 3, 4] [5, 6, 7, 8, 9, 10, 11] rfl rfl (by decide +kernel) (by decide +kernel) (fun r_10 _ H locs hw_11 hP hD hS => ?_)
    subst r_10
    have hP : va_P D vwCl (wCu K h0 a0 o0 ++ wGr K h1 a1 o1) H := hP.sub [7, 8, 9, 10, 11, 0, 1, 2, 3, 4, 5, 6] rfl
    have hD : va_D A (wCu K h0 a0 o0 ++ wGr K h1 a1 o1) := hD.sub [7, 8, 9, 10, 11, 0, 1, 2, 3, 4, 5, 6] (by decide +kernel) rfl
    refine W.widen (k := (gC (phCu os) (phCu o0))) (n := (gS (phCu os) (phCu o0))) (Nat.le_refl _) (Nat.le_refl _) ?_
    exact bCu_findOf_87 C ih _ _ _ _ _ _ _ h hg hP hD hS (lv_sub hl [0, 1, 3] rfl)
set_option maxHeartbeats 4000000 in
set_option maxRecDepth 100000 in
theorem bCu_findOf_39 {p : Program} {l : Launch} {e : Env} {s : State} {m : MethodId} {below : List Frame} {meth : Method} {c : Code} {A : Nat → Prop} {D : va_G} {K : Nat → ClassId} {h0 : Nat} {h1 : Nat} {a1 : Nat → Nat} {os : cf_O} {AR : Array Value} (C : (dc_C p s m AR meth c cCu_findOf 6 (Option.some Jvm.ClassFile.FieldType.boolean) yCu_findOf ∧ cf_E D K A s s.heap ∧ ∀ q, s.heap.size ≤ q → A q)) {n : Nat} (ih : IhCu_findOf p l e s m below meth c A D K h0 h1 a1 os AR n) (v2 : Int32) (v3 : Int32) (v4 : Int32) (s0 : Int32) (o0 : cf_O) (o1 : cf_O) (r : Int32 × cf_O) (h : fCu_findOf_39 (gCu_findOf n) v2 v3 v4 s0 o0 o1 = some r) {a0 : Nat → Nat} {H : Heap} {locs : List Loc} {ls : Array Slot} (hg : phCu os ≤ phCu o0) (hP : va_P D vwCl (wCu K h0 a0 o0 ++ wGr K h1 a1 o1) H) (hD : va_D A (wCu K h0 a0 o0 ++ wGr K h1 a1 o1)) (hS : va_S A s.heap H locs) (hl : lv_has ls 6 [(0, .ref h0), (1, .ref h1), (2, .int v2), (3, .int v3), (4, .int v4)]) : W p l e ({ frames := 4, cells := (gC (phCu os) (phCu r.2)), slots := (gS (phCu os) (phCu r.2)), locals := 158 }) s m AR below meth c H locs (gC (phCu os) (phCu o0)) (gS (phCu os) (phCu o0)) (MQ below (va_Qi (fun (x : Int32) (_ : Nat → Nat) => x = r.1) (fun (u : Nat → Nat) t => cf_At D A (wCu K h0 u r.2 ++ wGr K h1 a1 o1) t) A) AR s (gC (phCu os) (phCu r.2)) (gS (phCu os) (phCu r.2)) A) (F0 m 39 ls [.int s0]) := by
  obtain ⟨⟨hx, hb, hr, hts, hown, hlocks, hin, hml⟩, hE, hA⟩ := id C
  have hK := hE.k
  refine lv_if_ne (tgt := 44) hx hb dCu_findOf_39 (by decide) (fun c_1 => ?_) (fun c_1 => ?_)
  · have h := op_f c_1 h
    obtain ⟨x_2, ex_2⟩ : ∃ y : Int32, y = v4 + 1 := ⟨_, rfl⟩
    refine lv_iinc (v := x_2) (lv' := [(4, .int x_2), (0, .ref h0), (1, .ref h1), (2, .int v2), (3, .int v3)]) hx hb dCu_findOf_44 hl (k := 4) rfl (by rw [ex_2]; rfl) (by decide) rfl (fun ls hl => ?_)
    have h := op_ks ex_2 h
    refine lv_goto (tgt := 3) hx hb dCu_findOf_47 (by decide) ?_
    exact (ih.1) _ _ _ _ _ _ h hg hP hD hS (lv_sub hl [1, 2, 3, 4, 0] rfl)
  · have h := op_t c_1 h
    refine lv_iconst (v := 0) hx hb dCu_findOf_42 (by decide) ?_
    obtain rfl := Option.some.inj h
    exact dc_zretG a0 hx hb hr rfl hlocks rfl hP hD hS dCu_findOf_43
set_option maxHeartbeats 4000000 in
set_option maxRecDepth 100000 in
theorem bCu_findOf_3 {p : Program} {l : Launch} {e : Env} {s : State} {m : MethodId} {below : List Frame} {meth : Method} {c : Code} {A : Nat → Prop} {D : va_G} {K : Nat → ClassId} {h0 : Nat} {h1 : Nat} {a1 : Nat → Nat} {os : cf_O} {AR : Array Value} (C : (dc_C p s m AR meth c cCu_findOf 6 (Option.some Jvm.ClassFile.FieldType.boolean) yCu_findOf ∧ cf_E D K A s s.heap ∧ ∀ q, s.heap.size ≤ q → A q)) {n : Nat} (ih : IhCu_findOf p l e s m below meth c A D K h0 h1 a1 os AR n) (v2 : Int32) (v3 : Int32) (v4 : Int32) (o0 : cf_O) (o1 : cf_O) (r : Int32 × cf_O) (h : fCu_findOf_3 (gCu_findOf n) v2 v3 v4 o0 o1 = some r) {a0 : Nat → Nat} {H : Heap} {locs : List Loc} {ls : Array Slot} (hg : phCu os ≤ phCu o0) (hP : va_P D vwCl (wCu K h0 a0 o0 ++ wGr K h1 a1 o1) H) (hD : va_D A (wCu K h0 a0 o0 ++ wGr K h1 a1 o1)) (hS : va_S A s.heap H locs) (hl : lv_has ls 6 [(0, .ref h0), (1, .ref h1), (2, .int v2), (3, .int v3), (4, .int v4)]) : W p l e ({ frames := 4, cells := (gC (phCu os) (phCu r.2)), slots := (gS (phCu os) (phCu r.2)), locals := 158 }) s m AR below meth c H locs (gC (phCu os) (phCu o0)) (gS (phCu os) (phCu o0)) (MQ below (va_Qi (fun (x : Int32) (_ : Nat → Nat) => x = r.1) (fun (u : Nat → Nat) t => cf_At D A (wCu K h0 u r.2 ++ wGr K h1 a1 o1) t) A) AR s (gC (phCu os) (phCu r.2)) (gS (phCu os) (phCu r.2)) A) (F0 m 3 ls []) := by
  obtain ⟨⟨hx, hb, hr, hts, hown, hlocks, hin, hml⟩, hE, hA⟩ := id C
  have hK := hE.k
  refine lv_iload hx hb dCu_findOf_3 (lv_at hl 4 rfl) ?_
  refine lv_iload_n hx hb dCu_findOf_5 rfl (lv_at hl 3 rfl) ?_
  refine lv_icmp_gt (tgt := 50) hx hb dCu_findOf_6 (by decide) (fun c_1 => ?_) (fun c_1 => ?_)
  · have h := op_t c_1 h
    refine lv_sipush (v := 209) hx hb dCu_findOf_50 (by decide) ?_
    refine lv_istore (lv' := [(4, .int 209), (0, .ref h0), (1, .ref h1), (2, .int v2), (3, .int v3)]) hx hb dCu_findOf_53 hl (by decide) rfl (fun ls hl => ?_)
    refine lv_aload_n hx hb dCu_findOf_55 rfl (lv_at hl 1 rfl) ?_
    refine va_get (D := D) (ci := 5) (v := .ref (a0 2)) (C := RCu) (T := TCu) (N := 6) hx hb hts inCu hown hK hP 0 rfl rfl 2 (by decide) (hts _ wv_268) (fun _ h9 => h9) rfl dCu_findOf_56 ?_
    refine lv_iload_n hx hb dCu_findOf_59 rfl (lv_at hl 3 rfl) ?_
    obtain ⟨hi_2, h⟩ := op_n h
    refine va_iald (D := D) hx hb hK hP 2 0 rfl rfl hi_2 dCu_findOf_60 ?_
    refine lv_topi (fun x_3 ex_3 => ?_)
    have h := op_ks ex_3 h
    refine lv_iconst (v := 1) hx hb dCu_findOf_61 (by decide) ?_
    refine lv_iadd hx hb dCu_findOf_62 ?_
    refine lv_topi (fun x_4 ex_4 => ?_)
    have h := op_ks ex_4 h
    refine lv_istore (lv' := [(5, .int x_4), (4, .int 209), (0, .ref h0), (1, .ref h1), (2, .int v2), (3, .int v3)]) hx hb dCu_findOf_63 hl (by decide) rfl (fun ls hl => ?_)
    exact (ih.2) _ _ _ _ _ _ h hg hP hD hS (lv_sub hl [2, 4, 1, 0] rfl)
  · have h := op_f c_1 h
    refine lv_aload_n hx hb dCu_findOf_9 rfl (lv_at hl 0 rfl) ?_
    refine lv_aload_n hx hb dCu_findOf_10 rfl (lv_at hl 1 rfl) ?_
    refine va_get (D := D) (ci := 3) (v := .ref (a1 4)) (C := RGr) (T := TGr) (N := 10) hx hb hts inGr hown hK hP 5 rfl rfl 4 (by decide) (hts _ wv_565) (fun _ h9 => h9) rfl dCu_findOf_11 ?_
    refine lv_iload_n hx hb dCu_findOf_14 rfl (lv_at hl 2 rfl) ?_
    obtain ⟨hi_5, h⟩ := op_n h
    refine va_iald (D := D) hx hb hK hP 6 0 rfl rfl hi_5 dCu_findOf_15 ?_
    refine lv_topi (fun x_6 ex_6 => ?_)
    have h := op_ks ex_6 h
    refine lv_iconst (v := 1) hx hb dCu_findOf_16 (by decide) ?_
    refine lv_ishr hx hb dCu_findOf_17 ?_
    refine lv_topi (fun x_7 ex_7 => ?_)
    have h := op_ks ex_7 h
    refine lv_aload_n hx hb dCu_findOf_18 rfl (lv_at hl 1 rfl) ?_
    refine va_get (D := D) (ci := 3) (v := .ref (a1 5)) (C := RGr) (T := TGr) (N := 10) hx hb hts inGr hown hK hP 5 rfl rfl 5 (by decide) (hts _ wv_571) (fun _ h9 => h9) rfl dCu_findOf_19 ?_
    refine lv_iload_n hx hb dCu_findOf_22 rfl (lv_at hl 2 rfl) ?_
    obtain ⟨hi_8, h⟩ := op_n h
    refine va_iald (D := D) hx hb hK hP 7 0 rfl rfl hi_8 dCu_findOf_23 ?_
    refine lv_topi (fun x_9 ex_9 => ?_)
    have h := op_ks ex_9 h
    refine lv_iconst (v := 1) hx hb dCu_findOf_24 (by decide) ?_
    refine lv_ishr hx hb dCu_findOf_25 ?_
    refine lv_topi (fun x_10 ex_10 => ?_)
    have h := op_ks ex_10 h
    refine lv_iload hx hb dCu_findOf_26 (lv_at hl 4 rfl) ?_
    refine lv_aload_n hx hb dCu_findOf_28 rfl (lv_at hl 0 rfl) ?_
    refine va_get (D := D) (ci := 5) (v := .ref (a0 2)) (C := RCu) (T := TCu) (N := 6) hx hb hts inCu hown hK hP 0 rfl rfl 2 (by decide) (hts _ wv_268) (fun _ h9 => h9) rfl dCu_findOf_29 ?_
    refine lv_iload_n hx hb dCu_findOf_32 rfl (lv_at hl 2 rfl) ?_
    obtain ⟨hi_11, h⟩ := op_n h
    refine va_iald (D := D) hx hb hK hP 2 0 rfl rfl hi_11 dCu_findOf_33 ?_
    refine lv_topi (fun x_12 ex_12 => ?_)
    have h := op_ks ex_12 h
    refine lv_iconst (v := 1) hx hb dCu_findOf_34 (by decide) ?_
    refine lv_iadd hx hb dCu_findOf_35 ?_
    refine lv_topi (fun x_13 ex_13 => ?_)
    have h := op_ks ex_13 h
    obtain ⟨q_14, hq_14, h⟩ := op_b h
    have hgr_15 : phCu q_14.2 ≤ phCu r.2 := nCu_findOf_39 (niCu_findOf n) _ _ _ _ _ _ _ h
    have hg2_16 : phCu o0 ≤ phCu q_14.2 := nCu_joinAll _ _ _ _ _ _ hq_14
    refine cf_calli (wc := wCu K h0 a0 o0) (wr := wGr K h1 a1 o1) (va_runV (As := [.int x_7, .int x_10, .int v4, .int x_13]) (rest := []) ⟨hx, hb, hml, hown, hts⟩ (mCu_joinAll l D K _ x_7 x_10 v4 x_13 h0 a0 o0 _ hq_14) (cwV 4 hts (cf_GV wv_1301 wv_1303 wv_39 wv_160 wv_1304) rfl rfl rfl (by decide +kernel) ⟨Nat.le_of_ble_eq_true rfl, Nat.le_of_ble_eq_true rfl⟩) (cf_preV (wc := wCu K h0 a0 o0) hE hP hD hS hA rfl 0 rfl [0, 1, 2, 3, 4] rfl (by decide +kernel)) rfl rfl hl.1 rfl (lv_room (Nat.le_of_ble_eq_true rfl)) dCu_findOf_36 ⟨Nat.le_trans (gC_add hg hg2_16) (gC_le hgr_15), Nat.le_trans (gS_add hg hg2_16) (gS_le hgr_15)⟩) hP hD hS hA [0, 1, 2, 3, 4] [5, 6, 7, 8, 9, 10, 11] rfl rfl (by decide +kernel) (by decide +kernel) (fun r_17 a0_19 H locs hw_18 hP hD hS => ?_)
    subst r_17
    have hP : va_P D vwCl (wCu K h0 a0_19 q_14.2 ++ wGr K h1 a1 o1) H := hP.sub [7, 8, 9, 10, 11, 0, 1, 2, 3, 4, 5, 6] rfl
    have hD : va_D A (wCu K h0 a0_19 q_14.2 ++ wGr K h1 a1 o1) := hD.sub [7, 8, 9, 10, 11, 0, 1, 2, 3, 4, 5, 6] (by decide +kernel) rfl
    refine W.widen (k := (gC (phCu os) (phCu q_14.2))) (n := (gS (phCu os) (phCu q_14.2))) (gC_add hg hg2_16) (gS_add hg hg2_16) ?_
    have hg : phCu os ≤ phCu q_14.2 := Nat.le_trans hg hg2_16
    exact bCu_findOf_39 C ih _ _ _ _ _ _ _ h hg hP hD hS (lv_sub hl [0, 1, 2, 3, 4] rfl)
set_option maxHeartbeats 4000000 in
set_option maxRecDepth 100000 in
theorem bCu_findOf_0 {p : Program} {l : Launch} {e : Env} {s : State} {m : MethodId} {below : List Frame} {meth : Method} {c : Code} {A : Nat → Prop} {D : va_G} {K : Nat → ClassId} {h0 : Nat} {h1 : Nat} {a1 : Nat → Nat} {os : cf_O} {AR : Array Value} (C : (dc_C p s m AR meth c cCu_findOf 6 (Option.some Jvm.ClassFile.FieldType.boolean) yCu_findOf ∧ cf_E D K A s s.heap ∧ ∀ q, s.heap.size ≤ q → A q)) {n : Nat} (ih : IhCu_findOf p l e s m below meth c A D K h0 h1 a1 os AR n) (v2 : Int32) (v3 : Int32) (o0 : cf_O) (o1 : cf_O) (r : Int32 × cf_O) (h : fCu_findOf_0 (gCu_findOf n) v2 v3 o0 o1 = some r) {a0 : Nat → Nat} {H : Heap} {locs : List Loc} {ls : Array Slot} (hg : phCu os ≤ phCu o0) (hP : va_P D vwCl (wCu K h0 a0 o0 ++ wGr K h1 a1 o1) H) (hD : va_D A (wCu K h0 a0 o0 ++ wGr K h1 a1 o1)) (hS : va_S A s.heap H locs) (hl : lv_has ls 6 [(0, .ref h0), (1, .ref h1), (2, .int v2), (3, .int v3)]) : W p l e ({ frames := 4, cells := (gC (phCu os) (phCu r.2)), slots := (gS (phCu os) (phCu r.2)), locals := 158 }) s m AR below meth c H locs (gC (phCu os) (phCu o0)) (gS (phCu os) (phCu o0)) (MQ below (va_Qi (fun (x : Int32) (_ : Nat → Nat) => x = r.1) (fun (u : Nat → Nat) t => cf_At D A (wCu K h0 u r.2 ++ wGr K h1 a1 o1) t) A) AR s (gC (phCu os) (phCu r.2)) (gS (phCu os) (phCu r.2)) A) (F0 m 0 ls []) := by
  obtain ⟨⟨hx, hb, hr, hts, hown, hlocks, hin, hml⟩, hE, hA⟩ := id C
  have hK := hE.k
  refine lv_iconst (v := 2) hx hb dCu_findOf_0 (by decide) ?_
  refine lv_istore (lv' := [(4, .int 2), (0, .ref h0), (1, .ref h1), (2, .int v2), (3, .int v3)]) hx hb dCu_findOf_1 hl (by decide) rfl (fun ls hl => ?_)
  exact (ih.1) _ _ _ _ _ _ h hg hP hD hS (lv_sub hl [1, 2, 3, 4, 0] rfl)
theorem iCu_findOf {p : Program} {l : Launch} {e : Env} {s : State} {m : MethodId} {below : List Frame} {meth : Method} {c : Code} {A : Nat → Prop} {D : va_G} {K : Nat → ClassId} {h0 : Nat} {h1 : Nat} {a1 : Nat → Nat} {os : cf_O} {AR : Array Value} (C : (dc_C p s m AR meth c cCu_findOf 6 (Option.some Jvm.ClassFile.FieldType.boolean) yCu_findOf ∧ cf_E D K A s s.heap ∧ ∀ q, s.heap.size ≤ q → A q)) : ∀ n, IhCu_findOf p l e s m below meth c A D K h0 h1 a1 os AR n := by
  intro n
  induction n with
  | zero => exact ⟨(fun _ _ _ _ _ r h => by cases (show none = some r from h)), (fun _ _ _ _ _ r h => by cases (show none = some r from h))⟩
  | succ n ih => exact ⟨fun x0 x1 x2 x3 x4 r h _ _ _ _ hg hP hD hS hl => bCu_findOf_3 C ih x0 x1 x2 x3 x4 r h hg hP hD hS hl, fun x0 x1 x2 x3 x4 r h _ _ _ _ hg hP hD hS hl => bCu_findOf_65 C ih x0 x1 x2 x3 x4 r h hg hP hD hS hl⟩
set_option maxRecDepth 100000 in
theorem mCu_findOf (l : Launch) (D : va_G) (K : Nat → ClassId) (sz : Nat) (v2 : Int32) (v3 : Int32) (h0 : Nat) (a0 : Nat → Nat) (h1 : Nat) (a1 : Nat → Nat) (o0 : cf_O) (o1 : cf_O) (r : Int32 × cf_O) (h : fCu_findOf v2 v3 o0 o1 = some r) : Met l yCu_findOf (Cond.code yCu_findOf cCu_findOf 6 (Option.some Jvm.ClassFile.FieldType.boolean) :: cfB) ({ frames := 4, cells := (gC (phCu o0) (phCu r.2)), slots := (gS (phCu o0) (phCu r.2)), locals := 158 }) (va_Pc [.ref h0, .ref h1, .int v2, .int v3] (cf_Pre D K sz (wCu K h0 a0 o0 ++ wGr K h1 a1 o1))) (va_Qi (fun (x : Int32) (_ : Nat → Nat) => x = r.1) (fun (u : Nat → Nat) t => cf_At D (va_A (wCu K h0 a0 o0 ++ wGr K h1 a1 o1) sz) (wCu K h0 u r.2 ++ wGr K h1 a1 o1) t) (va_A (wCu K h0 a0 o0 ++ wGr K h1 a1 o1) sz)) (gC (phCu o0) (phCu r.2)) (gS (phCu o0) (phCu r.2)) (va_A (wCu K h0 a0 o0 ++ wGr K h1 a1 o1) sz) := by
  refine cf_ofW (y := yCu_findOf) (As := [.ref h0, .ref h1, .int v2, .int v3]) (WS := wCu K h0 a0 o0 ++ wGr K h1 a1 o1) (maxL := 6) (fun A => (va_Qi (fun (x : Int32) (_ : Nat → Nat) => x = r.1) (fun (u : Nat → Nat) t => cf_At D A (wCu K h0 u r.2 ++ wGr K h1 a1 o1) t) A)) (by decide) (Nat.le_of_ble_eq_true rfl) ?_
  intro p e s m below meth c A ls En hsz hA hP hD hE hS hl
  have C : (dc_C p s m (([.ref h0, .ref h1, .int v2, .int v3] : List Value).toArray) meth c cCu_findOf 6 (Option.some Jvm.ClassFile.FieldType.boolean) yCu_findOf ∧ cf_E D K A s s.heap ∧ ∀ q, s.heap.size ≤ q → A q) := ⟨En, hE, hA⟩
  refine W.widen (k := gC (phCu o0) (phCu o0)) (n := gS (phCu o0) (phCu o0)) (Nat.zero_le _) (Nat.zero_le _) ?_
  exact bCu_findOf_0 C (iCu_findOf C cfFU) v2 v3 o0 o1 r h (Nat.le_refl _) hP hD hS hl
def NICu_find (n : Nat) : Prop := (∀ (v2 : Int32) (v3 : Int32) (o0 : cf_O) (o1 : cf_O) (r : Int32 × cf_O), gCu_find n 0 v2 v3 o0 o1 = some r → phCu o0 ≤ phCu r.2)
set_option maxRecDepth 100000 in
theorem nCu_find_79 {n : Nat} (ih : NICu_find n) (v2 : Int32) (v3 : Int32) (o0 : cf_O) (o1 : cf_O) (r : Int32 × cf_O) (h : fCu_find_79 (gCu_find n) v2 v3 o0 o1 = some r) : phCu o0 ≤ phCu r.2 := by
  have hm : phCu o0 ≤ phCu o0 := Nat.le_refl _
  obtain ⟨x_1, ex_1, h⟩ := op_kx h
  obtain ⟨hi_2, h⟩ := op_n h
  obtain ⟨o_3, eo_3, h⟩ := op_kx h
  have hm : phCu o0 ≤ phCu o_3 := by rw [eo_3]; exact hm
  obtain ⟨x_5, ex_5, h⟩ := op_kx h
  exact Nat.le_trans hm ((ih) _ _ _ _ _ h)
set_option maxRecDepth 100000 in
theorem nCu_find_74 {n : Nat} (ih : NICu_find n) (v2 : Int32) (v3 : Int32) (s0 : Int32) (o0 : cf_O) (o1 : cf_O) (r : Int32 × cf_O) (h : fCu_find_74 (gCu_find n) v2 v3 s0 o0 o1 = some r) : phCu o0 ≤ phCu r.2 := by
  have hm : phCu o0 ≤ phCu o0 := Nat.le_refl _
  rcases (Classical.em (s0 = (0 : Int32))).symm with c_1 | c_1
  · have h := op_f c_1 h
    exact Nat.le_trans hm (nCu_find_79 ih _ _ _ _ _ h)
  · have h := op_t c_1 h
    obtain rfl := Option.some.inj h
    exact hm
set_option maxRecDepth 100000 in
theorem nCu_find_64 {n : Nat} (ih : NICu_find n) (v2 : Int32) (v3 : Int32) (s0 : Int32) (o0 : cf_O) (o1 : cf_O) (r : Int32 × cf_O) (h : fCu_find_64 (gCu_find n) v2 v3 s0 o0 o1 = some r) : phCu o0 ≤ phCu r.2 := by
  have hm : phCu o0 ≤ phCu o0 := Nat.le_refl _
  rcases (Classical.em (s0 = (0 : Int32))) with c_1 | c_1
  · have h := op_t c_1 h
    exact Nat.le_trans hm (nCu_find_79 ih _ _ _ _ _ h)
  · have h := op_f c_1 h
    obtain ⟨q_2, hq_2, h⟩ := op_b h
    have hm : phCu o0 ≤ phCu q_2.2 := Nat.le_trans hm (nCu_findOf _ _ _ _ _ hq_2)
    exact Nat.le_trans hm (nCu_find_74 ih _ _ _ _ _ _ h)
set_option maxRecDepth 100000 in
theorem nCu_find_59 {n : Nat} (ih : NICu_find n) (v2 : Int32) (v3 : Int32) (o0 : cf_O) (o1 : cf_O) (r : Int32 × cf_O) (h : fCu_find_59 (gCu_find n) v2 v3 o0 o1 = some r) : phCu o0 ≤ phCu r.2 := by
  have hm : phCu o0 ≤ phCu o0 := Nat.le_refl _
  obtain ⟨q_1, hq_1, h⟩ := op_b h
  exact Nat.le_trans hm (nCu_find_64 ih _ _ _ _ _ _ h)
set_option maxRecDepth 100000 in
theorem nCu_find_27 {n : Nat} (ih : NICu_find n) (v2 : Int32) (v3 : Int32) (s0 : Int32) (s1 : Int32) (o0 : cf_O) (o1 : cf_O) (r : Int32 × cf_O) (h : fCu_find_27 (gCu_find n) v2 v3 s0 s1 o0 o1 = some r) : phCu o0 ≤ phCu r.2 := by
  have hm : phCu o0 ≤ phCu o0 := Nat.le_refl _
  rcases (Classical.em (s1 ≤ s0)) with c_1 | c_1
  · have h := op_t c_1 h
    obtain ⟨o_2, eo_2, h⟩ := op_kx h
    have hm : phCu o0 ≤ phCu o_2 := by rw [eo_2]; exact hm
    obtain rfl := Option.some.inj h
    exact hm
  · have h := op_f c_1 h
    obtain ⟨hi_4, h⟩ := op_n h
    obtain ⟨o_5, eo_5, h⟩ := op_kx h
    have hm : phCu o0 ≤ phCu o_5 := by rw [eo_5]; exact hm
    obtain ⟨hi_7, h⟩ := op_n h
    obtain ⟨o_8, eo_8, h⟩ := op_kx h
    have hm : phCu o0 ≤ phCu o_8 := by rw [eo_8]; exact hm
    obtain ⟨x_10, ex_10, h⟩ := op_kx h
    obtain ⟨x_11, ex_11, h⟩ := op_kx h
    obtain ⟨x_12, ex_12, h⟩ := op_kx h
    obtain ⟨q_13, hq_13, h⟩ := op_b h
    have hm : phCu o0 ≤ phCu q_13 := Nat.le_trans hm (nCu_add _ _ _ _ hq_13)
    exact Nat.le_trans hm (nCu_find_59 ih _ _ _ _ _ h)
set_option maxRecDepth 100000 in
theorem nCu_find_22 {n : Nat} (ih : NICu_find n) (v2 : Int32) (v3 : Int32) (o0 : cf_O) (o1 : cf_O) (r : Int32 × cf_O) (h : fCu_find_22 (gCu_find n) v2 v3 o0 o1 = some r) : phCu o0 ≤ phCu r.2 := by
  have hm : phCu o0 ≤ phCu o0 := Nat.le_refl _
  obtain ⟨q_1, hq_1, h⟩ := op_b h
  exact Nat.le_trans hm (nCu_find_27 ih _ _ _ _ _ _ _ h)
set_option maxRecDepth 100000 in
theorem nCu_find_0 {n : Nat} (ih : NICu_find n) (v2 : Int32) (o0 : cf_O) (o1 : cf_O) (r : Int32 × cf_O) (h : fCu_find_0 (gCu_find n) v2 o0 o1 = some r) : phCu o0 ≤ phCu r.2 := by
  have hm : phCu o0 ≤ phCu o0 := Nat.le_refl _
  rcases (Classical.em ((o0.1 0) = v2)).symm with c_1 | c_1
  · have h := op_f c_1 h
    obtain ⟨o_2, eo_2, h⟩ := op_kx h
    have hm : phCu o0 ≤ phCu o_2 := by rw [eo_2]; exact hm
    obtain ⟨o_4, eo_4, h⟩ := op_kx h
    have hm : phCu o0 ≤ phCu o_4 := by rw [eo_4]; exact hm
    exact Nat.le_trans hm ((ih) _ _ _ _ _ h)
  · have h := op_t c_1 h
    obtain rfl := Option.some.inj h
    exact hm
theorem niCu_find : ∀ n, NICu_find n := by
  intro n
  induction n with
  | zero => exact (fun _ _ _ _ r h => by cases (show none = some r from h))
  | succ n ih => exact fun x0 x1 x2 x3 r h => nCu_find_22 ih x0 x1 x2 x3 r h
theorem nCu_find (v2 : Int32) (o0 : cf_O) (o1 : cf_O) (r : Int32 × cf_O) (h : fCu_find v2 o0 o1 = some r) : phCu o0 ≤ phCu r.2 := nCu_find_0 (niCu_find cfFU) v2 o0 o1 r h
def IhCu_find (p : Program) (l : Launch) (e : Env) (s : State) (m : MethodId) (below : List Frame) (meth : Method) (c : Code) (A : Nat → Prop) (D : va_G) (K : Nat → ClassId) (h0 : Nat) (h1 : Nat) (a1 : Nat → Nat) (os : cf_O) (AR : Array Value) (n : Nat) : Prop := (∀ (v2 : Int32) (v3 : Int32) (o0 : cf_O) (o1 : cf_O) (r : Int32 × cf_O), gCu_find n 0 v2 v3 o0 o1 = some r → ∀ {a0 : Nat → Nat} {H : Heap} {locs : List Loc} {ls : Array Slot}, (phCu os ≤ phCu o0) → (va_P D vwCl (wCu K h0 a0 o0 ++ wGr K h1 a1 o1) H) → (va_D A (wCu K h0 a0 o0 ++ wGr K h1 a1 o1)) → va_S A s.heap H locs → lv_has ls 4 [(0, .ref h0), (1, .ref h1), (2, .int v2), (3, .int v3)] → W p l e ({ frames := 5, cells := (gC (phCu os) (phCu r.2)), slots := (gS (phCu os) (phCu r.2)), locals := 183 }) s m AR below meth c H locs (gC (phCu os) (phCu o0)) (gS (phCu os) (phCu o0)) (MQ below (va_Qi (fun (x : Int32) (_ : Nat → Nat) => x = r.1) (fun (u : Nat → Nat) t => cf_At D A (wCu K h0 u r.2 ++ wGr K h1 a1 o1) t) A) AR s (gC (phCu os) (phCu r.2)) (gS (phCu os) (phCu r.2)) A) (F0 m 22 ls []))
set_option maxHeartbeats 4000000 in
set_option maxRecDepth 100000 in
theorem bCu_find_79 {p : Program} {l : Launch} {e : Env} {s : State} {m : MethodId} {below : List Frame} {meth : Method} {c : Code} {A : Nat → Prop} {D : va_G} {K : Nat → ClassId} {h0 : Nat} {h1 : Nat} {a1 : Nat → Nat} {os : cf_O} {AR : Array Value} (C : (dc_C p s m AR meth c cCu_find 4 (Option.some Jvm.ClassFile.FieldType.boolean) yCu_find ∧ cf_E D K A s s.heap ∧ ∀ q, s.heap.size ≤ q → A q)) {n : Nat} (ih : IhCu_find p l e s m below meth c A D K h0 h1 a1 os AR n) (v2 : Int32) (v3 : Int32) (o0 : cf_O) (o1 : cf_O) (r : Int32 × cf_O) (h : fCu_find_79 (gCu_find n) v2 v3 o0 o1 = some r) {a0 : Nat → Nat} {H : Heap} {locs : List Loc} {ls : Array Slot} (hg : phCu os ≤ phCu o0) (hP : va_P D vwCl (wCu K h0 a0 o0 ++ wGr K h1 a1 o1) H) (hD : va_D A (wCu K h0 a0 o0 ++ wGr K h1 a1 o1)) (hS : va_S A s.heap H locs) (hl : lv_has ls 4 [(0, .ref h0), (1, .ref h1), (2, .int v2), (3, .int v3)]) : W p l e ({ frames := 5, cells := (gC (phCu os) (phCu r.2)), slots := (gS (phCu os) (phCu r.2)), locals := 183 }) s m AR below meth c H locs (gC (phCu os) (phCu o0)) (gS (phCu os) (phCu o0)) (MQ below (va_Qi (fun (x : Int32) (_ : Nat → Nat) => x = r.1) (fun (u : Nat → Nat) t => cf_At D A (wCu K h0 u r.2 ++ wGr K h1 a1 o1) t) A) AR s (gC (phCu os) (phCu r.2)) (gS (phCu os) (phCu r.2)) A) (F0 m 79 ls []) := by
  obtain ⟨⟨hx, hb, hr, hts, hown, hlocks, hin, hml⟩, hE, hA⟩ := id C
  have hK := hE.k
  refine lv_aload_n hx hb dCu_find_79 rfl (lv_at hl 0 rfl) ?_
  refine va_get (D := D) (ci := 5) (v := .ref (a0 2)) (C := RCu) (T := TCu) (N := 6) hx hb hts inCu hown hK hP 0 rfl rfl 2 (by decide) (hts _ wv_268) (fun _ h9 => h9) rfl dCu_find_80 ?_
  refine lv_iload_n hx hb dCu_find_83 rfl (lv_at hl 3 rfl) ?_
  refine lv_iconst (v := 1) hx hb dCu_find_84 (by decide) ?_
  refine lv_iadd hx hb dCu_find_85 ?_
  refine lv_topi (fun x_1 ex_1 => ?_)
  have h := op_ks ex_1 h
  refine lv_aload_n hx hb dCu_find_86 rfl (lv_at hl 0 rfl) ?_
  refine va_get (D := D) (ci := 5) (v := .int (o0.1 3)) (C := RCu) (T := TCu) (N := 6) hx hb hts inCu hown hK hP 0 rfl rfl 3 (by decide) (hts _ wv_269) (fun _ h9 => h9) rfl dCu_find_87 ?_
  obtain ⟨hi_2, h⟩ := op_n h
  refine va_iast (D := D) hx hb hK hP hD hS 2 0 rfl rfl hi_2 dCu_find_90 (fun H locs hP hD hS => ?_)
  have hP : va_P D vwCl (wCu K h0 a0 (xp o0 2 x_1.toNatClampNeg (o0.1 3)) ++ wGr K h1 a1 o1) H := hP
  have hD : va_D A (wCu K h0 a0 (xp o0 2 x_1.toNatClampNeg (o0.1 3)) ++ wGr K h1 a1 o1) := hD
  obtain ⟨o_3, eo_3, h⟩ := op_kx h
  rw [← eo_3] at hP hD
  have hf_4 : phCu o_3 = phCu o0 := by rw [eo_3]; rfl
  refine W.widen (k := (gC (phCu os) (phCu o_3))) (n := (gS (phCu os) (phCu o_3))) (by rw [hf_4]; exact Nat.le_refl _) (by rw [hf_4]; exact Nat.le_refl _) ?_
  have hg : phCu os ≤ phCu o_3 := by rw [hf_4]; exact hg
  obtain ⟨x_5, ex_5⟩ : ∃ y : Int32, y = v3 + 1 := ⟨_, rfl⟩
  refine lv_iinc (v := x_5) (lv' := [(3, .int x_5), (0, .ref h0), (1, .ref h1), (2, .int v2)]) hx hb dCu_find_91 hl (k := 3) rfl (by rw [ex_5]; rfl) (by decide) rfl (fun ls hl => ?_)
  have h := op_ks ex_5 h
  refine lv_goto (tgt := 22) hx hb dCu_find_94 (by decide) ?_
  exact (ih) _ _ _ _ _ h hg hP hD hS (lv_sub hl [1, 2, 3, 0] rfl)
set_option maxHeartbeats 4000000 in
set_option maxRecDepth 100000 in
theorem bCu_find_74 {p : Program} {l : Launch} {e : Env} {s : State} {m : MethodId} {below : List Frame} {meth : Method} {c : Code} {A : Nat → Prop} {D : va_G} {K : Nat → ClassId} {h0 : Nat} {h1 : Nat} {a1 : Nat → Nat} {os : cf_O} {AR : Array Value} (C : (dc_C p s m AR meth c cCu_find 4 (Option.some Jvm.ClassFile.FieldType.boolean) yCu_find ∧ cf_E D K A s s.heap ∧ ∀ q, s.heap.size ≤ q → A q)) {n : Nat} (ih : IhCu_find p l e s m below meth c A D K h0 h1 a1 os AR n) (v2 : Int32) (v3 : Int32) (s0 : Int32) (o0 : cf_O) (o1 : cf_O) (r : Int32 × cf_O) (h : fCu_find_74 (gCu_find n) v2 v3 s0 o0 o1 = some r) {a0 : Nat → Nat} {H : Heap} {locs : List Loc} {ls : Array Slot} (hg : phCu os ≤ phCu o0) (hP : va_P D vwCl (wCu K h0 a0 o0 ++ wGr K h1 a1 o1) H) (hD : va_D A (wCu K h0 a0 o0 ++ wGr K h1 a1 o1)) (hS : va_S A s.heap H locs) (hl : lv_has ls 4 [(0, .ref h0), (1, .ref h1), (2, .int v2), (3, .int v3)]) : W p l e ({ frames := 5, cells := (gC (phCu os) (phCu r.2)), slots := (gS (phCu os) (phCu r.2)), locals := 183 }) s m AR below meth c H locs (gC (phCu os) (phCu o0)) (gS (phCu os) (phCu o0)) (MQ below (va_Qi (fun (x : Int32) (_ : Nat → Nat) => x = r.1) (fun (u : Nat → Nat) t => cf_At D A (wCu K h0 u r.2 ++ wGr K h1 a1 o1) t) A) AR s (gC (phCu os) (phCu r.2)) (gS (phCu os) (phCu r.2)) A) (F0 m 74 ls [.int s0]) := by
  obtain ⟨⟨hx, hb, hr, hts, hown, hlocks, hin, hml⟩, hE, hA⟩ := id C
  have hK := hE.k
  refine lv_if_ne (tgt := 79) hx hb dCu_find_74 (by decide) (fun c_1 => ?_) (fun c_1 => ?_)
  · have h := op_f c_1 h
    exact bCu_find_79 C ih _ _ _ _ _ h hg hP hD hS (lv_sub hl [0, 1, 2, 3] rfl)
  · have h := op_t c_1 h
    refine lv_iconst (v := 0) hx hb dCu_find_77 (by decide) ?_
    obtain rfl := Option.some.inj h
    exact dc_zretG a0 hx hb hr rfl hlocks rfl hP hD hS dCu_find_78
set_option maxHeartbeats 4000000 in
set_option maxRecDepth 100000 in
theorem bCu_find_64 {p : Program} {l : Launch} {e : Env} {s : State} {m : MethodId} {below : List Frame} {meth : Method} {c : Code} {A : Nat → Prop} {D : va_G} {K : Nat → ClassId} {h0 : Nat} {h1 : Nat} {a1 : Nat → Nat} {os : cf_O} {AR : Array Value} (C : (dc_C p s m AR meth c cCu_find 4 (Option.some Jvm.ClassFile.FieldType.boolean) yCu_find ∧ cf_E D K A s s.heap ∧ ∀ q, s.heap.size ≤ q → A q)) {n : Nat} (ih : IhCu_find p l e s m below meth c A D K h0 h1 a1 os AR n) (v2 : Int32) (v3 : Int32) (s0 : Int32) (o0 : cf_O) (o1 : cf_O) (r : Int32 × cf_O) (h : fCu_find_64 (gCu_find n) v2 v3 s0 o0 o1 = some r) {a0 : Nat → Nat} {H : Heap} {locs : List Loc} {ls : Array Slot} (hg : phCu os ≤ phCu o0) (hP : va_P D vwCl (wCu K h0 a0 o0 ++ wGr K h1 a1 o1) H) (hD : va_D A (wCu K h0 a0 o0 ++ wGr K h1 a1 o1)) (hS : va_S A s.heap H locs) (hl : lv_has ls 4 [(0, .ref h0), (1, .ref h1), (2, .int v2), (3, .int v3)]) : W p l e ({ frames := 5, cells := (gC (phCu os) (phCu r.2)), slots := (gS (phCu os) (phCu r.2)), locals := 183 }) s m AR below meth c H locs (gC (phCu os) (phCu o0)) (gS (phCu os) (phCu o0)) (MQ below (va_Qi (fun (x : Int32) (_ : Nat → Nat) => x = r.1) (fun (u : Nat → Nat) t => cf_At D A (wCu K h0 u r.2 ++ wGr K h1 a1 o1) t) A) AR s (gC (phCu os) (phCu r.2)) (gS (phCu os) (phCu r.2)) A) (F0 m 64 ls [.int s0]) := by
  obtain ⟨⟨hx, hb, hr, hts, hown, hlocks, hin, hml⟩, hE, hA⟩ := id C
  have hK := hE.k
  refine lv_if_eq (tgt := 79) hx hb dCu_find_64 (by decide) (fun c_1 => ?_) (fun c_1 => ?_)
  · have h := op_t c_1 h
    exact bCu_find_79 C ih _ _ _ _ _ h hg hP hD hS (lv_sub hl [0, 1, 2, 3] rfl)
  · have h := op_f c_1 h
    refine lv_aload_n hx hb dCu_find_67 rfl (lv_at hl 0 rfl) ?_
    refine lv_aload_n hx hb dCu_find_68 rfl (lv_at hl 1 rfl) ?_
    refine lv_iload_n hx hb dCu_find_69 rfl (lv_at hl 3 rfl) ?_
    refine lv_iload_n hx hb dCu_find_70 rfl (lv_at hl 2 rfl) ?_
    obtain ⟨q_2, hq_2, h⟩ := op_b h
    have hgr_3 : phCu q_2.2 ≤ phCu r.2 := nCu_find_74 (niCu_find n) _ _ _ _ _ _ h
    have hg2_4 : phCu o0 ≤ phCu q_2.2 := nCu_findOf _ _ _ _ _ hq_2
    refine cf_calli (wc := wCu K h0 a0 o0 ++ wGr K h1 a1 o1) (wr := []) (va_runV (As := [.ref h1, .int v3, .int v2]) (rest := []) ⟨hx, hb, hml, hown, hts⟩ (mCu_findOf l D K _ v3 v2 h0 a0 h1 a1 o0 o1 _ hq_2) (cwV 3 hts (cf_GV wv_1297 wv_1299 wv_38 wv_160 wv_1300) rfl rfl rfl (by decide +kernel) ⟨Nat.le_of_ble_eq_true rfl, Nat.le_of_ble_eq_true rfl⟩) (cf_preV (wc := wCu K h0 a0 o0 ++ wGr K h1 a1 o1) hE hP hD hS hA rfl 0 rfl [0, 1, 2, 3, 4, 5, 6, 7, 8, 9, 10, 11] rfl (by decide +kernel)) rfl rfl hl.1 rfl (lv_room (Nat.le_of_ble_eq_true rfl)) dCu_find_71 ⟨Nat.le_trans (gC_add hg hg2_4) (gC_le hgr_3), Nat.le_trans (gS_add hg hg2_4) (gS_le hgr_3)⟩) hP hD hS hA [0, 1, 2, 3, 4, 5, 6, 7, 8, 9, 10, 11] [] rfl rfl (by decide +kernel) (by decide +kernel) (fun r_5 a0_7 H locs hw_6 hP hD hS => ?_)
    subst r_5
    have hP : va_P D vwCl (wCu K h0 a0_7 q_2.2 ++ wGr K h1 a1 o1) H := hP.sub [0, 1, 2, 3, 4, 5, 6, 7, 8, 9, 10, 11] rfl
    have hD : va_D A (wCu K h0 a0_7 q_2.2 ++ wGr K h1 a1 o1) := hD.sub [0, 1, 2, 3, 4, 5, 6, 7, 8, 9, 10, 11] (by decide +kernel) rfl
    refine W.widen (k := (gC (phCu os) (phCu q_2.2))) (n := (gS (phCu os) (phCu q_2.2))) (gC_add hg hg2_4) (gS_add hg hg2_4) ?_
    have hg : phCu os ≤ phCu q_2.2 := Nat.le_trans hg hg2_4
    exact bCu_find_74 C ih _ _ _ _ _ _ h hg hP hD hS (lv_sub hl [0, 1, 2, 3] rfl)
set_option maxHeartbeats 4000000 in
set_option maxRecDepth 100000 in
theorem bCu_find_59 {p : Program} {l : Launch} {e : Env} {s : State} {m : MethodId} {below : List Frame} {meth : Method} {c : Code} {A : Nat → Prop} {D : va_G} {K : Nat → ClassId} {h0 : Nat} {h1 : Nat} {a1 : Nat → Nat} {os : cf_O} {AR : Array Value} (C : (dc_C p s m AR meth c cCu_find 4 (Option.some Jvm.ClassFile.FieldType.boolean) yCu_find ∧ cf_E D K A s s.heap ∧ ∀ q, s.heap.size ≤ q → A q)) {n : Nat} (ih : IhCu_find p l e s m below meth c A D K h0 h1 a1 os AR n) (v2 : Int32) (v3 : Int32) (o0 : cf_O) (o1 : cf_O) (r : Int32 × cf_O) (h : fCu_find_59 (gCu_find n) v2 v3 o0 o1 = some r) {a0 : Nat → Nat} {H : Heap} {locs : List Loc} {ls : Array Slot} (hg : phCu os ≤ phCu o0) (hP : va_P D vwCl (wCu K h0 a0 o0 ++ wGr K h1 a1 o1) H) (hD : va_D A (wCu K h0 a0 o0 ++ wGr K h1 a1 o1)) (hS : va_S A s.heap H locs) (hl : lv_has ls 4 [(0, .ref h0), (1, .ref h1), (2, .int v2), (3, .int v3)]) : W p l e ({ frames := 5, cells := (gC (phCu os) (phCu r.2)), slots := (gS (phCu os) (phCu r.2)), locals := 183 }) s m AR below meth c H locs (gC (phCu os) (phCu o0)) (gS (phCu os) (phCu o0)) (MQ below (va_Qi (fun (x : Int32) (_ : Nat → Nat) => x = r.1) (fun (u : Nat → Nat) t => cf_At D A (wCu K h0 u r.2 ++ wGr K h1 a1 o1) t) A) AR s (gC (phCu os) (phCu r.2)) (gS (phCu os) (phCu r.2)) A) (F0 m 59 ls []) := by
  obtain ⟨⟨hx, hb, hr, hts, hown, hlocks, hin, hml⟩, hE, hA⟩ := id C
  have hK := hE.k
  refine lv_aload_n hx hb dCu_find_59 rfl (lv_at hl 1 rfl) ?_
  refine lv_iload_n hx hb dCu_find_60 rfl (lv_at hl 3 rfl) ?_
  obtain ⟨q_1, hq_1, h⟩ := op_b h
  have hgr_2 : phCu o0 ≤ phCu r.2 := nCu_find_64 (niCu_find n) _ _ _ _ _ _ h
  refine cf_calli (wc := wGr K h1 a1 o1) (wr := wCu K h0 a0 o0) (va_runV (As := [.int v3]) (rest := []) ⟨hx, hb, hml, hown, hts⟩ (mGr_isGate l D K _ v3 h1 a1 o1 _ hq_1) (cwV 1 hts (cf_GV wv_1296 wv_1128 wv_1129 wv_171 wv_1130) rfl rfl rfl (by decide +kernel) ⟨Nat.le_of_ble_eq_true rfl, Nat.le_of_ble_eq_true rfl⟩) (cf_preV (wc := wGr K h1 a1 o1) hE hP hD hS hA rfl 5 rfl [5, 6, 7, 8, 9, 10, 11] rfl (by decide +kernel)) rfl rfl hl.1 rfl (lv_room (Nat.le_of_ble_eq_true rfl)) dCu_find_61 ⟨gC_le hgr_2, gS_le hgr_2⟩) hP hD hS hA [5, 6, 7, 8, 9, 10, 11] [0, 1, 2, 3, 4] rfl rfl (by decide +kernel) (by decide +kernel) (fun r_4 _ H locs hw_5 hP hD hS => ?_)
  subst r_4
  have hP : va_P D vwCl (wCu K h0 a0 o0 ++ wGr K h1 a1 o1) H := hP.sub [0, 1, 2, 3, 4, 5, 6, 7, 8, 9, 10, 11] rfl
  have hD : va_D A (wCu K h0 a0 o0 ++ wGr K h1 a1 o1) := hD.sub [0, 1, 2, 3, 4, 5, 6, 7, 8, 9, 10, 11] (by decide +kernel) rfl
  refine W.widen (k := (gC (phCu os) (phCu o0))) (n := (gS (phCu os) (phCu o0))) (Nat.le_refl _) (Nat.le_refl _) ?_
  exact bCu_find_64 C ih _ _ _ _ _ _ h hg hP hD hS (lv_sub hl [0, 1, 2, 3] rfl)
set_option maxHeartbeats 4000000 in
set_option maxRecDepth 100000 in
theorem bCu_find_27 {p : Program} {l : Launch} {e : Env} {s : State} {m : MethodId} {below : List Frame} {meth : Method} {c : Code} {A : Nat → Prop} {D : va_G} {K : Nat → ClassId} {h0 : Nat} {h1 : Nat} {a1 : Nat → Nat} {os : cf_O} {AR : Array Value} (C : (dc_C p s m AR meth c cCu_find 4 (Option.some Jvm.ClassFile.FieldType.boolean) yCu_find ∧ cf_E D K A s s.heap ∧ ∀ q, s.heap.size ≤ q → A q)) {n : Nat} (ih : IhCu_find p l e s m below meth c A D K h0 h1 a1 os AR n) (v2 : Int32) (v3 : Int32) (s0 : Int32) (s1 : Int32) (o0 : cf_O) (o1 : cf_O) (r : Int32 × cf_O) (h : fCu_find_27 (gCu_find n) v2 v3 s0 s1 o0 o1 = some r) {a0 : Nat → Nat} {H : Heap} {locs : List Loc} {ls : Array Slot} (hg : phCu os ≤ phCu o0) (hP : va_P D vwCl (wCu K h0 a0 o0 ++ wGr K h1 a1 o1) H) (hD : va_D A (wCu K h0 a0 o0 ++ wGr K h1 a1 o1)) (hS : va_S A s.heap H locs) (hl : lv_has ls 4 [(0, .ref h0), (1, .ref h1), (2, .int v2), (3, .int v3)]) : W p l e ({ frames := 5, cells := (gC (phCu os) (phCu r.2)), slots := (gS (phCu os) (phCu r.2)), locals := 183 }) s m AR below meth c H locs (gC (phCu os) (phCu o0)) (gS (phCu os) (phCu o0)) (MQ below (va_Qi (fun (x : Int32) (_ : Nat → Nat) => x = r.1) (fun (u : Nat → Nat) t => cf_At D A (wCu K h0 u r.2 ++ wGr K h1 a1 o1) t) A) AR s (gC (phCu os) (phCu r.2)) (gS (phCu os) (phCu r.2)) A) (F0 m 27 ls [.int s1, .int s0]) := by
  obtain ⟨⟨hx, hb, hr, hts, hown, hlocks, hin, hml⟩, hE, hA⟩ := id C
  have hK := hE.k
  refine lv_icmp_ge (tgt := 97) hx hb dCu_find_27 (by decide) (fun c_1 => ?_) (fun c_1 => ?_)
  · have h := op_t c_1 h
    refine lv_aload_n hx hb dCu_find_97 rfl (lv_at hl 0 rfl) ?_
    refine lv_iload_n hx hb dCu_find_98 rfl (lv_at hl 2 rfl) ?_
    refine va_put (D := D) (ci := 5) (v := .int v2) (ty := .int) (C := RCu) (T := TCu) (N := 6) hx hb hts inCu tyCu tyokCu nmCu hown hK hP hD hS 0 rfl rfl 0 (by decide) (hts _ wv_264) (fun _ h9 => h9) rfl (by decide +kernel) rfl rfl (Nat.le_of_ble_eq_true rfl) dCu_find_99 (fun H locs hP hD hS => ?_)
    have hP : va_P D vwCl (wCu K h0 a0 (fp o0 0 v2) ++ wGr K h1 a1 o1) H := hP
    have hD : va_D A (wCu K h0 a0 (fp o0 0 v2) ++ wGr K h1 a1 o1) := hD
    obtain ⟨o_2, eo_2, h⟩ := op_kx h
    rw [← eo_2] at hP hD
    have hf_3 : phCu o_2 = phCu o0 := by rw [eo_2]; rfl
    refine W.widen (k := (gC (phCu os) (phCu o_2))) (n := (gS (phCu os) (phCu o_2))) (by rw [hf_3]; exact Nat.le_refl _) (by rw [hf_3]; exact Nat.le_refl _) ?_
    have hg : phCu os ≤ phCu o_2 := by rw [hf_3]; exact hg
    refine lv_iconst (v := 1) hx hb dCu_find_102 (by decide) ?_
    obtain rfl := Option.some.inj h
    exact dc_zretG a0 hx hb hr rfl hlocks rfl hP hD hS dCu_find_103
  · have h := op_f c_1 h
    refine lv_aload_n hx hb dCu_find_30 rfl (lv_at hl 0 rfl) ?_
    refine va_get (D := D) (ci := 5) (v := .ref (a0 2)) (C := RCu) (T := TCu) (N := 6) hx hb hts inCu hown hK hP 0 rfl rfl 2 (by decide) (hts _ wv_268) (fun _ h9 => h9) rfl dCu_find_31 ?_
    refine lv_iload_n hx hb dCu_find_34 rfl (lv_at hl 3 rfl) ?_
    refine lv_aload_n hx hb dCu_find_35 rfl (lv_at hl 0 rfl) ?_
    refine va_get (D := D) (ci := 5) (v := .int (o0.1 3)) (C := RCu) (T := TCu) (N := 6) hx hb hts inCu hown hK hP 0 rfl rfl 3 (by decide) (hts _ wv_269) (fun _ h9 => h9) rfl dCu_find_36 ?_
    obtain ⟨hi_4, h⟩ := op_n h
    refine va_iast (D := D) hx hb hK hP hD hS 2 0 rfl rfl hi_4 dCu_find_39 (fun H locs hP hD hS => ?_)
    have hP : va_P D vwCl (wCu K h0 a0 (xp o0 2 v3.toNatClampNeg (o0.1 3)) ++ wGr K h1 a1 o1) H := hP
    have hD : va_D A (wCu K h0 a0 (xp o0 2 v3.toNatClampNeg (o0.1 3)) ++ wGr K h1 a1 o1) := hD
    obtain ⟨o_5, eo_5, h⟩ := op_kx h
    rw [← eo_5] at hP hD
    have hf_6 : phCu o_5 = phCu o0 := by rw [eo_5]; rfl
    refine W.widen (k := (gC (phCu os) (phCu o_5))) (n := (gS (phCu os) (phCu o_5))) (by rw [hf_6]; exact Nat.le_refl _) (by rw [hf_6]; exact Nat.le_refl _) ?_
    have hg : phCu os ≤ phCu o_5 := by rw [hf_6]; exact hg
    refine lv_aload_n hx hb dCu_find_40 rfl (lv_at hl 0 rfl) ?_
    refine va_get (D := D) (ci := 5) (v := .ref (a0 1)) (C := RCu) (T := TCu) (N := 6) hx hb hts inCu hown hK hP 0 rfl rfl 1 (by decide) (hts _ wv_266) (fun _ h9 => h9) rfl dCu_find_41 ?_
    refine lv_iload_n hx hb dCu_find_44 rfl (lv_at hl 3 rfl) ?_
    refine lv_iconst (v := 0) hx hb dCu_find_45 (by decide) ?_
    obtain ⟨hi_7, h⟩ := op_n h
    refine va_iast (D := D) hx hb hK hP hD hS 1 0 rfl rfl hi_7 dCu_find_46 (fun H locs hP hD hS => ?_)
    have hP : va_P D vwCl (wCu K h0 a0 (xp o_5 1 v3.toNatClampNeg 0) ++ wGr K h1 a1 o1) H := hP
    have hD : va_D A (wCu K h0 a0 (xp o_5 1 v3.toNatClampNeg 0) ++ wGr K h1 a1 o1) := hD
    obtain ⟨o_8, eo_8, h⟩ := op_kx h
    rw [← eo_8] at hP hD
    have hf_9 : phCu o_8 = phCu o_5 := by rw [eo_8]; rfl
    refine W.widen (k := (gC (phCu os) (phCu o_8))) (n := (gS (phCu os) (phCu o_8))) (by rw [hf_9]; exact Nat.le_refl _) (by rw [hf_9]; exact Nat.le_refl _) ?_
    have hg : phCu os ≤ phCu o_8 := by rw [hf_9]; exact hg
    refine lv_aload_n hx hb dCu_find_47 rfl (lv_at hl 0 rfl) ?_
    refine lv_iload_n hx hb dCu_find_48 rfl (lv_at hl 3 rfl) ?_
    refine lv_i2l hx hb dCu_find_49 rfl ?_
    refine lv_topl (fun x_10 ex_10 => ?_)
    have h := op_ks ex_10 h
    refine lv_lconst (v := 1) hx hb dCu_find_50 (by decide) ?_
    refine lv_iload_n hx hb dCu_find_51 rfl (lv_at hl 3 rfl) ?_
    refine lv_bipush (v := 63) hx hb dCu_find_52 (by decide) ?_
    refine lv_iand hx hb dCu_find_54 ?_
    refine lv_topi (fun x_11 ex_11 => ?_)
    have h := op_ks ex_11 h
    refine lv_lshl hx hb dCu_find_55 rfl ?_
    refine lv_topl (fun x_12 ex_12 => ?_)
    have h := op_ks ex_12 h
    obtain ⟨q_13, hq_13, h⟩ := op_b h
    have hgr_14 : phCu q_13 ≤ phCu r.2 := nCu_find_59 (niCu_find n) _ _ _ _ _ h
    have hg2_15 : phCu o_8 ≤ phCu q_13 := nCu_add _ _ _ _ hq_13
    refine cf_callv (wc := wCu K h0 a0 o_8) (wr := wGr K h1 a1 o1) (va_runV (As := [.long x_10, .long x_12]) (rest := []) ⟨hx, hb, hml, hown, hts⟩ (mCu_add l D K _ x_10 x_12 h0 a0 o_8 _ hq_13) (cwV 2 hts (cf_GV wv_1278 wv_1280 wv_37 wv_160 wv_1281) rfl rfl rfl (by decide +kernel) ⟨Nat.le_of_ble_eq_true rfl, Nat.le_of_ble_eq_true rfl⟩) (cf_preV (wc := wCu K h0 a0 o_8) hE hP hD hS hA rfl 0 rfl [0, 1, 2, 3, 4] rfl (by decide +kernel)) rfl rfl hl.1 rfl (lv_room (Nat.le_of_ble_eq_true rfl)) dCu_find_56 ⟨Nat.le_trans (gC_add hg hg2_15) (gC_le hgr_14), Nat.le_trans (gS_add hg hg2_15) (gS_le hgr_14)⟩) hP hD hS hA [0, 1, 2, 3, 4] [5, 6, 7, 8, 9, 10, 11] rfl rfl (by decide +kernel) (by decide +kernel) (fun a0_17 H locs hw_16 hP hD hS => ?_)
    have hP : va_P D vwCl (wCu K h0 a0_17 q_13 ++ wGr K h1 a1 o1) H := hP.sub [7, 8, 9, 10, 11, 0, 1, 2, 3, 4, 5, 6] rfl
    have hD : va_D A (wCu K h0 a0_17 q_13 ++ wGr K h1 a1 o1) := hD.sub [7, 8, 9, 10, 11, 0, 1, 2, 3, 4, 5, 6] (by decide +kernel) rfl
    refine W.widen (k := (gC (phCu os) (phCu q_13))) (n := (gS (phCu os) (phCu q_13))) (gC_add hg hg2_15) (gS_add hg hg2_15) ?_
    have hg : phCu os ≤ phCu q_13 := Nat.le_trans hg hg2_15
    exact bCu_find_59 C ih _ _ _ _ _ h hg hP hD hS (lv_sub hl [0, 1, 2, 3] rfl)
set_option maxHeartbeats 4000000 in
set_option maxRecDepth 100000 in
theorem bCu_find_22 {p : Program} {l : Launch} {e : Env} {s : State} {m : MethodId} {below : List Frame} {meth : Method} {c : Code} {A : Nat → Prop} {D : va_G} {K : Nat → ClassId} {h0 : Nat} {h1 : Nat} {a1 : Nat → Nat} {os : cf_O} {AR : Array Value} (C : (dc_C p s m AR meth c cCu_find 4 (Option.some Jvm.ClassFile.FieldType.boolean) yCu_find ∧ cf_E D K A s s.heap ∧ ∀ q, s.heap.size ≤ q → A q)) {n : Nat} (ih : IhCu_find p l e s m below meth c A D K h0 h1 a1 os AR n) (v2 : Int32) (v3 : Int32) (o0 : cf_O) (o1 : cf_O) (r : Int32 × cf_O) (h : fCu_find_22 (gCu_find n) v2 v3 o0 o1 = some r) {a0 : Nat → Nat} {H : Heap} {locs : List Loc} {ls : Array Slot} (hg : phCu os ≤ phCu o0) (hP : va_P D vwCl (wCu K h0 a0 o0 ++ wGr K h1 a1 o1) H) (hD : va_D A (wCu K h0 a0 o0 ++ wGr K h1 a1 o1)) (hS : va_S A s.heap H locs) (hl : lv_has ls 4 [(0, .ref h0), (1, .ref h1), (2, .int v2), (3, .int v3)]) : W p l e ({ frames := 5, cells := (gC (phCu os) (phCu r.2)), slots := (gS (phCu os) (phCu r.2)), locals := 183 }) s m AR below meth c H locs (gC (phCu os) (phCu o0)) (gS (phCu os) (phCu o0)) (MQ below (va_Qi (fun (x : Int32) (_ : Nat → Nat) => x = r.1) (fun (u : Nat → Nat) t => cf_At D A (wCu K h0 u r.2 ++ wGr K h1 a1 o1) t) A) AR s (gC (phCu os) (phCu r.2)) (gS (phCu os) (phCu r.2)) A) (F0 m 22 ls []) := by
  obtain ⟨⟨hx, hb, hr, hts, hown, hlocks, hin, hml⟩, hE, hA⟩ := id C
  have hK := hE.k
  refine lv_iload_n hx hb dCu_find_22 rfl (lv_at hl 3 rfl) ?_
  refine lv_aload_n hx hb dCu_find_23 rfl (lv_at hl 1 rfl) ?_
  obtain ⟨q_1, hq_1, h⟩ := op_b h
  have hgr_2 : phCu o0 ≤ phCu r.2 := nCu_find_27 (niCu_find n) _ _ _ _ _ _ _ h
  refine cf_calli (wc := wGr K h1 a1 o1) (wr := wCu K h0 a0 o0) (va_runV (As := []) (rest := [.int v3]) ⟨hx, hb, hml, hown, hts⟩ (mGr_size l D K _ h1 a1 o1 _ hq_1) (cwV 0 hts (cf_GV wv_1277 wv_1073 wv_1074 wv_171 wv_1075) rfl rfl rfl (by decide +kernel) ⟨Nat.le_of_ble_eq_true rfl, Nat.le_of_ble_eq_true rfl⟩) (cf_preV (wc := wGr K h1 a1 o1) hE hP hD hS hA rfl 5 rfl [5, 6, 7, 8, 9, 10, 11] rfl (by decide +kernel)) rfl rfl hl.1 rfl (lv_room (Nat.le_of_ble_eq_true rfl)) dCu_find_24 ⟨gC_le hgr_2, gS_le hgr_2⟩) hP hD hS hA [5, 6, 7, 8, 9, 10, 11] [0, 1, 2, 3, 4] rfl rfl (by decide +kernel) (by decide +kernel) (fun r_4 _ H locs hw_5 hP hD hS => ?_)
  subst r_4
  have hP : va_P D vwCl (wCu K h0 a0 o0 ++ wGr K h1 a1 o1) H := hP.sub [0, 1, 2, 3, 4, 5, 6, 7, 8, 9, 10, 11] rfl
  have hD : va_D A (wCu K h0 a0 o0 ++ wGr K h1 a1 o1) := hD.sub [0, 1, 2, 3, 4, 5, 6, 7, 8, 9, 10, 11] (by decide +kernel) rfl
  refine W.widen (k := (gC (phCu os) (phCu o0))) (n := (gS (phCu os) (phCu o0))) (Nat.le_refl _) (Nat.le_refl _) ?_
  exact bCu_find_27 C ih _ _ _ _ _ _ _ h hg hP hD hS (lv_sub hl [0, 1, 2, 3] rfl)
set_option maxHeartbeats 4000000 in
set_option maxRecDepth 100000 in
theorem bCu_find_0 {p : Program} {l : Launch} {e : Env} {s : State} {m : MethodId} {below : List Frame} {meth : Method} {c : Code} {A : Nat → Prop} {D : va_G} {K : Nat → ClassId} {h0 : Nat} {h1 : Nat} {a1 : Nat → Nat} {os : cf_O} {AR : Array Value} (C : (dc_C p s m AR meth c cCu_find 4 (Option.some Jvm.ClassFile.FieldType.boolean) yCu_find ∧ cf_E D K A s s.heap ∧ ∀ q, s.heap.size ≤ q → A q)) {n : Nat} (ih : IhCu_find p l e s m below meth c A D K h0 h1 a1 os AR n) (v2 : Int32) (o0 : cf_O) (o1 : cf_O) (r : Int32 × cf_O) (h : fCu_find_0 (gCu_find n) v2 o0 o1 = some r) {a0 : Nat → Nat} {H : Heap} {locs : List Loc} {ls : Array Slot} (hg : phCu os ≤ phCu o0) (hP : va_P D vwCl (wCu K h0 a0 o0 ++ wGr K h1 a1 o1) H) (hD : va_D A (wCu K h0 a0 o0 ++ wGr K h1 a1 o1)) (hS : va_S A s.heap H locs) (hl : lv_has ls 4 [(0, .ref h0), (1, .ref h1), (2, .int v2)]) : W p l e ({ frames := 5, cells := (gC (phCu os) (phCu r.2)), slots := (gS (phCu os) (phCu r.2)), locals := 183 }) s m AR below meth c H locs (gC (phCu os) (phCu o0)) (gS (phCu os) (phCu o0)) (MQ below (va_Qi (fun (x : Int32) (_ : Nat → Nat) => x = r.1) (fun (u : Nat → Nat) t => cf_At D A (wCu K h0 u r.2 ++ wGr K h1 a1 o1) t) A) AR s (gC (phCu os) (phCu r.2)) (gS (phCu os) (phCu r.2)) A) (F0 m 0 ls []) := by
  obtain ⟨⟨hx, hb, hr, hts, hown, hlocks, hin, hml⟩, hE, hA⟩ := id C
  have hK := hE.k
  refine lv_aload_n hx hb dCu_find_0 rfl (lv_at hl 0 rfl) ?_
  refine va_get (D := D) (ci := 5) (v := .int (o0.1 0)) (C := RCu) (T := TCu) (N := 6) hx hb hts inCu hown hK hP 0 rfl rfl 0 (by decide) (hts _ wv_264) (fun _ h9 => h9) rfl dCu_find_1 ?_
  refine lv_iload_n hx hb dCu_find_4 rfl (lv_at hl 2 rfl) ?_
  refine lv_icmp_ne (tgt := 10) hx hb dCu_find_5 (by decide) (fun c_1 => ?_) (fun c_1 => ?_)
  · have h := op_f c_1 h
    refine lv_aload_n hx hb dCu_find_10 rfl (lv_at hl 0 rfl) ?_
    refine lv_iconst (v := 0) hx hb dCu_find_11 (by decide) ?_
    refine va_put (D := D) (ci := 5) (v := .int 0) (ty := .int) (C := RCu) (T := TCu) (N := 6) hx hb hts inCu tyCu tyokCu nmCu hown hK hP hD hS 0 rfl rfl 0 (by decide) (hts _ wv_264) (fun _ h9 => h9) rfl (by decide +kernel) rfl rfl (Nat.le_of_ble_eq_true rfl) dCu_find_12 (fun H locs hP hD hS => ?_)
    have hP : va_P D vwCl (wCu K h0 a0 (fp o0 0 0) ++ wGr K h1 a1 o1) H := hP
    have hD : va_D A (wCu K h0 a0 (fp o0 0 0) ++ wGr K h1 a1 o1) := hD
    obtain ⟨o_2, eo_2, h⟩ := op_kx h
    rw [← eo_2] at hP hD
    have hf_3 : phCu o_2 = phCu o0 := by rw [eo_2]; rfl
    refine W.widen (k := (gC (phCu os) (phCu o_2))) (n := (gS (phCu os) (phCu o_2))) (by rw [hf_3]; exact Nat.le_refl _) (by rw [hf_3]; exact Nat.le_refl _) ?_
    have hg : phCu os ≤ phCu o_2 := by rw [hf_3]; exact hg
    refine lv_aload_n hx hb dCu_find_15 rfl (lv_at hl 0 rfl) ?_
    refine lv_iconst (v := 0) hx hb dCu_find_16 (by decide) ?_
    refine va_put (D := D) (ci := 5) (v := .int 0) (ty := .int) (C := RCu) (T := TCu) (N := 6) hx hb hts inCu tyCu tyokCu nmCu hown hK hP hD hS 0 rfl rfl 3 (by decide) (hts _ wv_269) (fun _ h9 => h9) rfl (by decide +kernel) rfl rfl (Nat.le_of_ble_eq_true rfl) dCu_find_17 (fun H locs hP hD hS => ?_)
    have hP : va_P D vwCl (wCu K h0 a0 (fp o_2 3 0) ++ wGr K h1 a1 o1) H := hP
    have hD : va_D A (wCu K h0 a0 (fp o_2 3 0) ++ wGr K h1 a1 o1) := hD
    obtain ⟨o_4, eo_4, h⟩ := op_kx h
    rw [← eo_4] at hP hD
    have hf_5 : phCu o_4 = phCu o_2 := by rw [eo_4]; rfl
    refine W.widen (k := (gC (phCu os) (phCu o_4))) (n := (gS (phCu os) (phCu o_4))) (by rw [hf_5]; exact Nat.le_refl _) (by rw [hf_5]; exact Nat.le_refl _) ?_
    have hg : phCu os ≤ phCu o_4 := by rw [hf_5]; exact hg
    refine lv_iconst (v := 1) hx hb dCu_find_20 (by decide) ?_
    refine lv_istore_n (lv' := [(3, .int 1), (0, .ref h0), (1, .ref h1), (2, .int v2)]) hx hb dCu_find_21 rfl hl (by decide) rfl (fun ls hl => ?_)
    exact (ih) _ _ _ _ _ h hg hP hD hS (lv_sub hl [1, 2, 3, 0] rfl)
  · have h := op_t c_1 h
    refine lv_iconst (v := 1) hx hb dCu_find_8 (by decide) ?_
    obtain rfl := Option.some.inj h
    exact dc_zretG a0 hx hb hr rfl hlocks rfl hP hD hS dCu_find_9
theorem iCu_find {p : Program} {l : Launch} {e : Env} {s : State} {m : MethodId} {below : List Frame} {meth : Method} {c : Code} {A : Nat → Prop} {D : va_G} {K : Nat → ClassId} {h0 : Nat} {h1 : Nat} {a1 : Nat → Nat} {os : cf_O} {AR : Array Value} (C : (dc_C p s m AR meth c cCu_find 4 (Option.some Jvm.ClassFile.FieldType.boolean) yCu_find ∧ cf_E D K A s s.heap ∧ ∀ q, s.heap.size ≤ q → A q)) : ∀ n, IhCu_find p l e s m below meth c A D K h0 h1 a1 os AR n := by
  intro n
  induction n with
  | zero => exact (fun _ _ _ _ r h => by cases (show none = some r from h))
  | succ n ih => exact fun x0 x1 x2 x3 r h _ _ _ _ hg hP hD hS hl => bCu_find_22 C ih x0 x1 x2 x3 r h hg hP hD hS hl
set_option maxRecDepth 100000 in
theorem mCu_find (l : Launch) (D : va_G) (K : Nat → ClassId) (sz : Nat) (v2 : Int32) (h0 : Nat) (a0 : Nat → Nat) (h1 : Nat) (a1 : Nat → Nat) (o0 : cf_O) (o1 : cf_O) (r : Int32 × cf_O) (h : fCu_find v2 o0 o1 = some r) : Met l yCu_find (Cond.code yCu_find cCu_find 4 (Option.some Jvm.ClassFile.FieldType.boolean) :: cfB) ({ frames := 5, cells := (gC (phCu o0) (phCu r.2)), slots := (gS (phCu o0) (phCu r.2)), locals := 183 }) (va_Pc [.ref h0, .ref h1, .int v2] (cf_Pre D K sz (wCu K h0 a0 o0 ++ wGr K h1 a1 o1))) (va_Qi (fun (x : Int32) (_ : Nat → Nat) => x = r.1) (fun (u : Nat → Nat) t => cf_At D (va_A (wCu K h0 a0 o0 ++ wGr K h1 a1 o1) sz) (wCu K h0 u r.2 ++ wGr K h1 a1 o1) t) (va_A (wCu K h0 a0 o0 ++ wGr K h1 a1 o1) sz)) (gC (phCu o0) (phCu r.2)) (gS (phCu o0) (phCu r.2)) (va_A (wCu K h0 a0 o0 ++ wGr K h1 a1 o1) sz) := by
  refine cf_ofW (y := yCu_find) (As := [.ref h0, .ref h1, .int v2]) (WS := wCu K h0 a0 o0 ++ wGr K h1 a1 o1) (maxL := 4) (fun A => (va_Qi (fun (x : Int32) (_ : Nat → Nat) => x = r.1) (fun (u : Nat → Nat) t => cf_At D A (wCu K h0 u r.2 ++ wGr K h1 a1 o1) t) A)) (by decide) (Nat.le_of_ble_eq_true rfl) ?_
  intro p e s m below meth c A ls En hsz hA hP hD hE hS hl
  have C : (dc_C p s m (([.ref h0, .ref h1, .int v2] : List Value).toArray) meth c cCu_find 4 (Option.some Jvm.ClassFile.FieldType.boolean) yCu_find ∧ cf_E D K A s s.heap ∧ ∀ q, s.heap.size ≤ q → A q) := ⟨En, hE, hA⟩
  refine W.widen (k := gC (phCu o0) (phCu o0)) (n := gS (phCu o0) (phCu o0)) (Nat.zero_le _) (Nat.zero_le _) ?_
  exact bCu_find_0 C (iCu_find C cfFU) v2 o0 o1 r h (Nat.le_refl _) hP hD hS hl
set_option maxHeartbeats 4000000 in
set_option maxRecDepth 100000 in
theorem bFu_inputWord_0 {p : Program} {l : Launch} {e : Env} {s : State} {m : MethodId} {below : List Frame} {meth : Method} {c : Code} {A : Nat → Prop} {D : va_G} {K : Nat → ClassId} {AR : Array Value} (C : (dc_C p s m AR meth c cFu_inputWord 2 (Option.some Jvm.ClassFile.FieldType.long) yFu_inputWord ∧ cf_E D K A s s.heap ∧ ∀ q, s.heap.size ≤ q → A q)) (v0 : Int32) (v1 : Int32) (r : Int64) (h : fFu_inputWord_0 v0 v1 = some r) {H : Heap} {locs : List Loc} {ls : Array Slot} (hP : va_P D vwCl ([]) H) (hD : va_D A ([])) (hS : va_S A s.heap H locs) (hl : lv_has ls 2 [(0, .int v0), (1, .int v1)]) : W p l e ({ frames := 0, cells := 0, slots := 0, locals := 0 }) s m AR below meth c H locs 0 0 (MQ below (va_Ql (fun (x : Int64) (_ : Unit) => x = r) (fun (_ : Unit) t => cf_At D A ([]) t) A) AR s 0 0 A) (F0 m 0 ls []) := by
  obtain ⟨⟨hx, hb, hr, hts, hown, hlocks, hin, hml⟩, hE, hA⟩ := id C
  have hK := hE.k
  obtain ⟨t_FuPATTERNS, hZt_FuPATTERNS, hTt_FuPATTERNS⟩ := hE.2.2.2.2.2.2.2.2.1
  refine lv_iload_n hx hb dFu_inputWord_0 rfl (lv_at hl 0 rfl) ?_
  refine va_gets hx hb hZt_FuPATTERNS hS hown (hts _ wv_1170) (fun _ h9 => h9) dFu_inputWord_1 ?_
  refine va_tlen (v := 6) hx hb hTt_FuPATTERNS hS rfl dFu_inputWord_4 ?_
  refine lv_icmp_ge (tgt := 14) hx hb dFu_inputWord_5 (by decide) (fun c_1 => ?_) (fun c_1 => ?_)
  · have h := op_t c_1 h
    refine lv_iload_n hx hb dFu_inputWord_14 rfl (lv_at hl 1 rfl) ?_
    refine lv_iload_n hx hb dFu_inputWord_15 rfl (lv_at hl 0 rfl) ?_
    refine va_gets hx hb hZt_FuPATTERNS hS hown (hts _ wv_1170) (fun _ h9 => h9) dFu_inputWord_16 ?_
    refine va_tlen (v := 6) hx hb hTt_FuPATTERNS hS rfl dFu_inputWord_19 ?_
    refine lv_isub hx hb dFu_inputWord_20 ?_
    refine lv_topi (fun x_2 ex_2 => ?_)
    have h := op_ks ex_2 h
    refine lv_ishr hx hb dFu_inputWord_21 ?_
    refine lv_topi (fun x_3 ex_3 => ?_)
    have h := op_ks ex_3 h
    refine lv_iconst (v := 1) hx hb dFu_inputWord_22 (by decide) ?_
    refine lv_iand hx hb dFu_inputWord_23 ?_
    refine lv_topi (fun x_4 ex_4 => ?_)
    have h := op_ks ex_4 h
    refine lv_i2l hx hb dFu_inputWord_24 rfl ?_
    refine lv_topl (fun x_5 ex_5 => ?_)
    have h := op_ks ex_5 h
    refine lv_lneg hx hb dFu_inputWord_25 ?_
    refine lv_topl (fun x_6 ex_6 => ?_)
    have h := op_ks ex_6 h
    obtain rfl := Option.some.inj h
    exact dc_lret hx hb hr hlocks rfl hP hD hS dFu_inputWord_26
  · have h := op_f c_1 h
    refine va_gets hx hb hZt_FuPATTERNS hS hown (hts _ wv_1170) (fun _ h9 => h9) dFu_inputWord_8 ?_
    refine lv_iload_n hx hb dFu_inputWord_11 rfl (lv_at hl 0 rfl) ?_
    obtain ⟨hi_7, h⟩ := op_n h
    refine va_tl hx hb hTt_FuPATTERNS hS (i := v0) hi_7 (v := .long (cf_fpats v0.toNatClampNeg)) rfl dFu_inputWord_12 ?_
    refine lv_topl (fun x_8 ex_8 => ?_)
    have h := op_ks ex_8 h
    obtain rfl := Option.some.inj h
    exact dc_lret hx hb hr hlocks rfl hP hD hS dFu_inputWord_13
set_option maxRecDepth 100000 in
theorem mFu_inputWord (l : Launch) (D : va_G) (K : Nat → ClassId) (sz : Nat) (v0 : Int32) (v1 : Int32) (r : Int64) (h : fFu_inputWord v0 v1 = some r) : Met l yFu_inputWord (Cond.code yFu_inputWord cFu_inputWord 2 (Option.some Jvm.ClassFile.FieldType.long) :: cfB) ({ frames := 0, cells := 0, slots := 0, locals := 0 }) (va_Pc [.int v0, .int v1] (cf_Pre D K sz ([]))) (va_Ql (fun (x : Int64) (_ : Unit) => x = r) (fun (_ : Unit) t => cf_At D (va_A ([]) sz) ([]) t) (va_A ([]) sz)) 0 0 (va_A ([]) sz) := by
  refine cf_ofW (y := yFu_inputWord) (As := [.int v0, .int v1]) (WS := []) (maxL := 2) (fun A => (va_Ql (fun (x : Int64) (_ : Unit) => x = r) (fun (_ : Unit) t => cf_At D A ([]) t) A)) (by decide) (Nat.le_of_ble_eq_true rfl) ?_
  intro p e s m below meth c A ls En hsz hA hP hD hE hS hl
  have C : (dc_C p s m (([.int v0, .int v1] : List Value).toArray) meth c cFu_inputWord 2 (Option.some Jvm.ClassFile.FieldType.long) yFu_inputWord ∧ cf_E D K A s s.heap ∧ ∀ q, s.heap.size ≤ q → A q) := ⟨En, hE, hA⟩
  exact bFu_inputWord_0 C v0 v1 r h hP hD hS hl
set_option maxHeartbeats 4000000 in
set_option maxRecDepth 100000 in
theorem bFu_word_0 {p : Program} {l : Launch} {e : Env} {s : State} {m : MethodId} {below : List Frame} {meth : Method} {c : Code} {A : Nat → Prop} {D : va_G} {K : Nat → ClassId} {h0 : Nat} {a0 : Nat → Nat} {AR : Array Value} (C : (dc_C p s m AR meth c cFu_word 3 (Option.some Jvm.ClassFile.FieldType.long) yFu_word ∧ cf_E D K A s s.heap ∧ ∀ q, s.heap.size ≤ q → A q)) (v1 : Int32) (v2 : Int32) (o0 : cf_O) (r : Int64) (h : fFu_word_0 v1 v2 o0 = some r) {H : Heap} {locs : List Loc} {ls : Array Slot} (hP : va_P D vwCl (wFu K h0 a0 o0) H) (hD : va_D A (wFu K h0 a0 o0)) (hS : va_S A s.heap H locs) (hl : lv_has ls 3 [(0, .ref h0), (1, .int v1), (2, .int v2)]) : W p l e ({ frames := 0, cells := 0, slots := 0, locals := 0 }) s m AR below meth c H locs 0 0 (MQ below (va_Ql (fun (x : Int64) (_ : Unit) => x = r) (fun (_ : Unit) t => cf_At D A (wFu K h0 a0 o0) t) A) AR s 0 0 A) (F0 m 0 ls []) := by
  obtain ⟨⟨hx, hb, hr, hts, hown, hlocks, hin, hml⟩, hE, hA⟩ := id C
  have hK := hE.k
  refine lv_aload_n hx hb dFu_word_0 rfl (lv_at hl 0 rfl) ?_
  refine va_get (D := D) (ci := 4) (v := .ref (a0 1)) (C := RFu) (T := TFu) (N := 5) hx hb hts inFu hown hK hP 0 rfl rfl 1 (by decide) (hts _ wv_242) (fun _ h9 => h9) rfl dFu_word_1 ?_
  refine lv_iload_n hx hb dFu_word_4 rfl (lv_at hl 1 rfl) ?_
  refine lv_iconst (v := 1) hx hb dFu_word_5 (by decide) ?_
  refine lv_ishr hx hb dFu_word_6 ?_
  refine lv_topi (fun x_1 ex_1 => ?_)
  have h := op_ks ex_1 h
  refine lv_iconst (v := 4) hx hb dFu_word_7 (by decide) ?_
  refine lv_imul hx hb dFu_word_8 ?_
  refine lv_topi (fun x_2 ex_2 => ?_)
  have h := op_ks ex_2 h
  refine lv_iload_n hx hb dFu_word_9 rfl (lv_at hl 2 rfl) ?_
  refine lv_iadd hx hb dFu_word_10 ?_
  refine lv_topi (fun x_3 ex_3 => ?_)
  have h := op_ks ex_3 h
  obtain ⟨hi_4, h⟩ := op_n h
  refine va_lald (D := D) hx hb hK hP 1 1 rfl rfl hi_4 dFu_word_11 ?_
  refine lv_topl (fun x_5 ex_5 => ?_)
  have h := op_ks ex_5 h
  refine lv_iload_n hx hb dFu_word_12 rfl (lv_at hl 1 rfl) ?_
  refine lv_iconst (v := 1) hx hb dFu_word_13 (by decide) ?_
  refine lv_iand hx hb dFu_word_14 ?_
  refine lv_topi (fun x_6 ex_6 => ?_)
  have h := op_ks ex_6 h
  refine lv_i2l hx hb dFu_word_15 rfl ?_
  refine lv_topl (fun x_7 ex_7 => ?_)
  have h := op_ks ex_7 h
  refine lv_lneg hx hb dFu_word_16 ?_
  refine lv_topl (fun x_8 ex_8 => ?_)
  have h := op_ks ex_8 h
  refine lv_lxor hx hb dFu_word_17 ?_
  refine lv_topl (fun x_9 ex_9 => ?_)
  have h := op_ks ex_9 h
  obtain rfl := Option.some.inj h
  exact dc_lret hx hb hr hlocks rfl hP hD hS dFu_word_18
set_option maxRecDepth 100000 in
theorem mFu_word (l : Launch) (D : va_G) (K : Nat → ClassId) (sz : Nat) (v1 : Int32) (v2 : Int32) (h0 : Nat) (a0 : Nat → Nat) (o0 : cf_O) (r : Int64) (h : fFu_word v1 v2 o0 = some r) : Met l yFu_word (Cond.code yFu_word cFu_word 3 (Option.some Jvm.ClassFile.FieldType.long) :: cfB) ({ frames := 0, cells := 0, slots := 0, locals := 0 }) (va_Pc [.ref h0, .int v1, .int v2] (cf_Pre D K sz (wFu K h0 a0 o0))) (va_Ql (fun (x : Int64) (_ : Unit) => x = r) (fun (_ : Unit) t => cf_At D (va_A (wFu K h0 a0 o0) sz) (wFu K h0 a0 o0) t) (va_A (wFu K h0 a0 o0) sz)) 0 0 (va_A (wFu K h0 a0 o0) sz) := by
  refine cf_ofW (y := yFu_word) (As := [.ref h0, .int v1, .int v2]) (WS := wFu K h0 a0 o0) (maxL := 3) (fun A => (va_Ql (fun (x : Int64) (_ : Unit) => x = r) (fun (_ : Unit) t => cf_At D A (wFu K h0 a0 o0) t) A)) (by decide) (Nat.le_of_ble_eq_true rfl) ?_
  intro p e s m below meth c A ls En hsz hA hP hD hE hS hl
  have C : (dc_C p s m (([.ref h0, .int v1, .int v2] : List Value).toArray) meth c cFu_word 3 (Option.some Jvm.ClassFile.FieldType.long) yFu_word ∧ cf_E D K A s s.heap ∧ ∀ q, s.heap.size ≤ q → A q) := ⟨En, hE, hA⟩
  exact bFu_word_0 C v1 v2 o0 r h hP hD hS hl
def IhFu_find (p : Program) (l : Launch) (e : Env) (s : State) (m : MethodId) (below : List Frame) (meth : Method) (c : Code) (A : Nat → Prop) (D : va_G) (K : Nat → ClassId) (h0 : Nat) (a0 : Nat → Nat) (h1 : Nat) (a1 : Nat → Nat) (AR : Array Value) (n : Nat) : Prop := (∀ (v2 : Int32) (o0 : cf_O) (o1 : cf_O) (r : cf_O), gFu_find n 0 v2 0 o0 o1 = some r → ∀ {H : Heap} {locs : List Loc} {ls : Array Slot}, (va_P D vwCl (wFu K h0 a0 o0 ++ wGr K h1 a1 o1) H) → (va_D A (wFu K h0 a0 o0 ++ wGr K h1 a1 o1)) → va_S A s.heap H locs → lv_has ls 4 [(0, .ref h0), (1, .ref h1), (2, .int v2)] → W p l e ({ frames := 1, cells := 0, slots := 0, locals := 22 }) s m AR below meth c H locs 0 0 (MQ below (va_Qv (fun (_ : Unit) => True) (fun (_ : Unit) t => cf_At D A (wFu K h0 a0 r ++ wGr K h1 a1 o1) t) A) AR s 0 0 A) (F0 m 10 ls [])) ∧ (∀ (v2 : Int32) (v3 : Int32) (o0 : cf_O) (o1 : cf_O) (r : cf_O), gFu_find n 1 v2 v3 o0 o1 = some r → ∀ {H : Heap} {locs : List Loc} {ls : Array Slot}, (va_P D vwCl (wFu K h0 a0 o0 ++ wGr K h1 a1 o1) H) → (va_D A (wFu K h0 a0 o0 ++ wGr K h1 a1 o1)) → va_S A s.heap H locs → lv_has ls 4 [(0, .ref h0), (1, .ref h1), (2, .int v2), (3, .int v3)] → W p l e ({ frames := 1, cells := 0, slots := 0, locals := 22 }) s m AR below meth c H locs 0 0 (MQ below (va_Qv (fun (_ : Unit) => True) (fun (_ : Unit) t => cf_At D A (wFu K h0 a0 r ++ wGr K h1 a1 o1) t) A) AR s 0 0 A) (F0 m 17 ls [])) ∧ (∀ (v2 : Int32) (v3 : Int32) (o0 : cf_O) (o1 : cf_O) (r : cf_O), gFu_find n 2 v2 v3 o0 o1 = some r → ∀ {H : Heap} {locs : List Loc} {ls : Array Slot}, (va_P D vwCl (wFu K h0 a0 o0 ++ wGr K h1 a1 o1) H) → (va_D A (wFu K h0 a0 o0 ++ wGr K h1 a1 o1)) → va_S A s.heap H locs → lv_has ls 4 [(0, .ref h0), (1, .ref h1), (2, .int v2), (3, .int v3)] → W p l e ({ frames := 1, cells := 0, slots := 0, locals := 22 }) s m AR below meth c H locs 0 0 (MQ below (va_Qv (fun (_ : Unit) => True) (fun (_ : Unit) t => cf_At D A (wFu K h0 a0 r ++ wGr K h1 a1 o1) t) A) AR s 0 0 A) (F0 m 55 ls []))
set_option maxHeartbeats 4000000 in
set_option maxRecDepth 100000 in
theorem bFu_find_55 {p : Program} {l : Launch} {e : Env} {s : State} {m : MethodId} {below : List Frame} {meth : Method} {c : Code} {A : Nat → Prop} {D : va_G} {K : Nat → ClassId} {h0 : Nat} {a0 : Nat → Nat} {h1 : Nat} {a1 : Nat → Nat} {AR : Array Value} (C : (dc_C p s m AR meth c cFu_find 4 (Option.none : Option Jvm.ClassFile.FieldType) yFu_find ∧ cf_E D K A s s.heap ∧ ∀ q, s.heap.size ≤ q → A q)) {n : Nat} (ih : IhFu_find p l e s m below meth c A D K h0 a0 h1 a1 AR n) (v2 : Int32) (v3 : Int32) (o0 : cf_O) (o1 : cf_O) (r : cf_O) (h : fFu_find_55 (gFu_find n) v2 v3 o0 o1 = some r) {H : Heap} {locs : List Loc} {ls : Array Slot} (hP : va_P D vwCl (wFu K h0 a0 o0 ++ wGr K h1 a1 o1) H) (hD : va_D A (wFu K h0 a0 o0 ++ wGr K h1 a1 o1)) (hS : va_S A s.heap H locs) (hl : lv_has ls 4 [(0, .ref h0), (1, .ref h1), (2, .int v2), (3, .int v3)]) : W p l e ({ frames := 1, cells := 0, slots := 0, locals := 22 }) s m AR below meth c H locs 0 0 (MQ below (va_Qv (fun (_ : Unit) => True) (fun (_ : Unit) t => cf_At D A (wFu K h0 a0 r ++ wGr K h1 a1 o1) t) A) AR s 0 0 A) (F0 m 55 ls []) := by
  obtain ⟨⟨hx, hb, hr, hts, hown, hlocks, hin, hml⟩, hE, hA⟩ := id C
  have hK := hE.k
  refine lv_iload_n hx hb dFu_find_55 rfl (lv_at hl 3 rfl) ?_
  refine lv_aload_n hx hb dFu_find_56 rfl (lv_at hl 1 rfl) ?_
  obtain ⟨q_1, hq_1, h⟩ := op_b h
  refine cf_calli (wc := wGr K h1 a1 o1) (wr := wFu K h0 a0 o0) (va_runV (As := []) (rest := [.int v3]) ⟨hx, hb, hml, hown, hts⟩ (mGr_size l D K _ h1 a1 o1 _ hq_1) (cwV 0 hts (cf_GV wv_1172 wv_1073 wv_1074 wv_171 wv_1075) rfl rfl rfl (by decide +kernel) ⟨Nat.le_of_ble_eq_true rfl, Nat.le_of_ble_eq_true rfl⟩) (cf_preV (wc := wGr K h1 a1 o1) hE hP hD hS hA rfl 5 rfl [5, 6, 7, 8, 9, 10, 11] rfl (by decide +kernel)) rfl rfl hl.1 rfl (lv_room (Nat.le_of_ble_eq_true rfl)) dFu_find_57 ⟨Nat.le_of_ble_eq_true rfl, Nat.le_of_ble_eq_true rfl⟩) hP hD hS hA [5, 6, 7, 8, 9, 10, 11] [0, 1, 2, 3, 4] rfl rfl (by decide +kernel) (by decide +kernel) (fun r_2 _ H locs hw_3 hP hD hS => ?_)
  subst r_2
  have hP : va_P D vwCl (wFu K h0 a0 o0 ++ wGr K h1 a1 o1) H := hP.sub [0, 1, 2, 3, 4, 5, 6, 7, 8, 9, 10, 11] rfl
  have hD : va_D A (wFu K h0 a0 o0 ++ wGr K h1 a1 o1) := hD.sub [0, 1, 2, 3, 4, 5, 6, 7, 8, 9, 10, 11] (by decide +kernel) rfl
  refine lv_icmp_ge (tgt := 102) hx hb dFu_find_60 (by decide) (fun c_4 => ?_) (fun c_4 => ?_)
  · have h := op_t c_4 h
    obtain ⟨x_5, ex_5⟩ : ∃ y : Int32, y = v2 + 1 := ⟨_, rfl⟩
    refine lv_iinc (v := x_5) (lv' := [(2, .int x_5), (0, .ref h0), (1, .ref h1), (3, .int v3)]) hx hb dFu_find_102 hl (k := 2) rfl (by rw [ex_5]; rfl) (by decide) rfl (fun ls hl => ?_)
    have h := op_ks ex_5 h
    refine lv_goto (tgt := 10) hx hb dFu_find_105 (by decide) ?_
    exact (ih.1) _ _ _ _ h hP hD hS (lv_sub hl [1, 2, 0] rfl)
  · have h := op_f c_4 h
    refine lv_aload_n hx hb dFu_find_63 rfl (lv_at hl 0 rfl) ?_
    refine va_get (D := D) (ci := 4) (v := .ref (a0 1)) (C := RFu) (T := TFu) (N := 5) hx hb hts inFu hown hK hP 0 rfl rfl 1 (by decide) (hts _ wv_242) (fun _ h9 => h9) rfl dFu_find_64 ?_
    refine lv_iload_n hx hb dFu_find_67 rfl (lv_at hl 3 rfl) ?_
    refine lv_iconst (v := 4) hx hb dFu_find_68 (by decide) ?_
    refine lv_imul hx hb dFu_find_69 ?_
    refine lv_topi (fun x_6 ex_6 => ?_)
    have h := op_ks ex_6 h
    refine lv_iload_n hx hb dFu_find_70 rfl (lv_at hl 2 rfl) ?_
    refine lv_iadd hx hb dFu_find_71 ?_
    refine lv_topi (fun x_7 ex_7 => ?_)
    have h := op_ks ex_7 h
    refine lv_aload_n hx hb dFu_find_72 rfl (lv_at hl 0 rfl) ?_
    refine lv_aload_n hx hb dFu_find_73 rfl (lv_at hl 1 rfl) ?_
    refine va_get (D := D) (ci := 3) (v := .ref (a1 4)) (C := RGr) (T := TGr) (N := 10) hx hb hts inGr hown hK hP 5 rfl rfl 4 (by decide) (hts _ wv_561) (fun _ h9 => h9) rfl dFu_find_74 ?_
    refine lv_iload_n hx hb dFu_find_77 rfl (lv_at hl 3 rfl) ?_
    obtain ⟨hi_8, h⟩ := op_n h
    refine va_iald (D := D) hx hb hK hP 6 0 rfl rfl hi_8 dFu_find_78 ?_
    refine lv_topi (fun x_9 ex_9 => ?_)
    have h := op_ks ex_9 h
    refine lv_iload_n hx hb dFu_find_79 rfl (lv_at hl 2 rfl) ?_
    obtain ⟨q_10, hq_10, h⟩ := op_b h
    refine cf_calll (wc := wFu K h0 a0 o0) (wr := wGr K h1 a1 o1) (va_runV (As := [.int x_9, .int v2]) (rest := [.int x_7, .ref (a0 1)]) ⟨hx, hb, hml, hown, hts⟩ (mFu_word l D K _ x_9 v2 h0 a0 o0 _ hq_10) (cwV 2 hts (cf_GV wv_1173 wv_1175 wv_25 wv_159 wv_1176) rfl rfl rfl (by decide +kernel) ⟨Nat.le_of_ble_eq_true rfl, Nat.le_of_ble_eq_true rfl⟩) (cf_preV (wc := wFu K h0 a0 o0) hE hP hD hS hA rfl 0 rfl [0, 1, 2, 3, 4] rfl (by decide +kernel)) rfl rfl hl.1 rfl (lv_room (Nat.le_of_ble_eq_true rfl)) dFu_find_80 ⟨Nat.le_of_ble_eq_true rfl, Nat.le_of_ble_eq_true rfl⟩) hP hD hS hA [0, 1, 2, 3, 4] [5, 6, 7, 8, 9, 10, 11] rfl rfl (by decide +kernel) (by decide +kernel) (fun r_11 _ H locs hw_12 hP hD hS => ?_)
    subst r_11
    have hP : va_P D vwCl (wFu K h0 a0 o0 ++ wGr K h1 a1 o1) H := hP.sub [7, 8, 9, 10, 11, 0, 1, 2, 3, 4, 5, 6] rfl
    have hD : va_D A (wFu K h0 a0 o0 ++ wGr K h1 a1 o1) := hD.sub [7, 8, 9, 10, 11, 0, 1, 2, 3, 4, 5, 6] (by decide +kernel) rfl
    refine lv_aload_n hx hb dFu_find_83 rfl (lv_at hl 0 rfl) ?_
    refine lv_aload_n hx hb dFu_find_84 rfl (lv_at hl 1 rfl) ?_
    refine va_get (D := D) (ci := 3) (v := .ref (a1 5)) (C := RGr) (T := TGr) (N := 10) hx hb hts inGr hown hK hP 5 rfl rfl 5 (by decide) (hts _ wv_567) (fun _ h9 => h9) rfl dFu_find_85 ?_
    refine lv_iload_n hx hb dFu_find_88 rfl (lv_at hl 3 rfl) ?_
    obtain ⟨hi_13, h⟩ := op_n h
    refine va_iald (D := D) hx hb hK hP 7 0 rfl rfl hi_13 dFu_find_89 ?_
    refine lv_topi (fun x_14 ex_14 => ?_)
    have h := op_ks ex_14 h
    refine lv_iload_n hx hb dFu_find_90 rfl (lv_at hl 2 rfl) ?_
    obtain ⟨q_15, hq_15, h⟩ := op_b h
    refine cf_calll (wc := wFu K h0 a0 o0) (wr := wGr K h1 a1 o1) (va_runV (As := [.int x_14, .int v2]) (rest := [.long q_10, .int x_7, .ref (a0 1)]) ⟨hx, hb, hml, hown, hts⟩ (mFu_word l D K _ x_14 v2 h0 a0 o0 _ hq_15) (cwV 2 hts (cf_GV wv_1173 wv_1175 wv_25 wv_159 wv_1176) rfl rfl rfl (by decide +kernel) ⟨Nat.le_of_ble_eq_true rfl, Nat.le_of_ble_eq_true rfl⟩) (cf_preV (wc := wFu K h0 a0 o0) hE hP hD hS hA rfl 0 rfl [0, 1, 2, 3, 4] rfl (by decide +kernel)) rfl rfl hl.1 rfl (lv_room (Nat.le_of_ble_eq_true rfl)) dFu_find_91 ⟨Nat.le_of_ble_eq_true rfl, Nat.le_of_ble_eq_true rfl⟩) hP hD hS hA [0, 1, 2, 3, 4] [5, 6, 7, 8, 9, 10, 11] rfl rfl (by decide +kernel) (by decide +kernel) (fun r_16 _ H locs hw_17 hP hD hS => ?_)
    subst r_16
    have hP : va_P D vwCl (wFu K h0 a0 o0 ++ wGr K h1 a1 o1) H := hP.sub [7, 8, 9, 10, 11, 0, 1, 2, 3, 4, 5, 6] rfl
    have hD : va_D A (wFu K h0 a0 o0 ++ wGr K h1 a1 o1) := hD.sub [7, 8, 9, 10, 11, 0, 1, 2, 3, 4, 5, 6] (by decide +kernel) rfl
    refine lv_land hx hb dFu_find_94 ?_
    refine lv_topl (fun x_18 ex_18 => ?_)
    have h := op_ks ex_18 h
    obtain ⟨hi_19, h⟩ := op_n h
    refine va_last (D := D) hx hb hK hP hD hS 1 1 rfl rfl hi_19 dFu_find_95 (fun H locs hP hD hS => ?_)
    have hP : va_P D vwCl (wFu K h0 a0 (yp o0 1 x_7.toNatClampNeg x_18) ++ wGr K h1 a1 o1) H := hP
    have hD : va_D A (wFu K h0 a0 (yp o0 1 x_7.toNatClampNeg x_18) ++ wGr K h1 a1 o1) := hD
    obtain ⟨o_20, eo_20, h⟩ := op_kx h
    rw [← eo_20] at hP hD
    obtain ⟨x_21, ex_21⟩ : ∃ y : Int32, y = v3 + 1 := ⟨_, rfl⟩
    refine lv_iinc (v := x_21) (lv' := [(3, .int x_21), (0, .ref h0), (1, .ref h1), (2, .int v2)]) hx hb dFu_find_96 hl (k := 3) rfl (by rw [ex_21]; rfl) (by decide) rfl (fun ls hl => ?_)
    have h := op_ks ex_21 h
    refine lv_goto (tgt := 55) hx hb dFu_find_99 (by decide) ?_
    exact (ih.2.2) _ _ _ _ _ h hP hD hS (lv_sub hl [1, 2, 3, 0] rfl)
set_option maxHeartbeats 4000000 in
set_option maxRecDepth 100000 in
theorem bFu_find_17 {p : Program} {l : Launch} {e : Env} {s : State} {m : MethodId} {below : List Frame} {meth : Method} {c : Code} {A : Nat → Prop} {D : va_G} {K : Nat → ClassId} {h0 : Nat} {a0 : Nat → Nat} {h1 : Nat} {a1 : Nat → Nat} {AR : Array Value} (C : (dc_C p s m AR meth c cFu_find 4 (Option.none : Option Jvm.ClassFile.FieldType) yFu_find ∧ cf_E D K A s s.heap ∧ ∀ q, s.heap.size ≤ q → A q)) {n : Nat} (ih : IhFu_find p l e s m below meth c A D K h0 a0 h1 a1 AR n) (v2 : Int32) (v3 : Int32) (o0 : cf_O) (o1 : cf_O) (r : cf_O) (h : fFu_find_17 (gFu_find n) v2 v3 o0 o1 = some r) {H : Heap} {locs : List Loc} {ls : Array Slot} (hP : va_P D vwCl (wFu K h0 a0 o0 ++ wGr K h1 a1 o1) H) (hD : va_D A (wFu K h0 a0 o0 ++ wGr K h1 a1 o1)) (hS : va_S A s.heap H locs) (hl : lv_has ls 4 [(0, .ref h0), (1, .ref h1), (2, .int v2), (3, .int v3)]) : W p l e ({ frames := 1, cells := 0, slots := 0, locals := 22 }) s m AR below meth c H locs 0 0 (MQ below (va_Qv (fun (_ : Unit) => True) (fun (_ : Unit) t => cf_At D A (wFu K h0 a0 r ++ wGr K h1 a1 o1) t) A) AR s 0 0 A) (F0 m 17 ls []) := by
  obtain ⟨⟨hx, hb, hr, hts, hown, hlocks, hin, hml⟩, hE, hA⟩ := id C
  have hK := hE.k
  refine lv_iload_n hx hb dFu_find_17 rfl (lv_at hl 3 rfl) ?_
  refine lv_aload_n hx hb dFu_find_18 rfl (lv_at hl 1 rfl) ?_
  refine va_get (D := D) (ci := 3) (v := .int (o1.1 0)) (C := RGr) (T := TGr) (N := 10) hx hb hts inGr hown hK hP 5 rfl rfl 0 (by decide) (hts _ wv_548) (fun _ h9 => h9) rfl dFu_find_19 ?_
  refine lv_icmp_ge (tgt := 48) hx hb dFu_find_22 (by decide) (fun c_1 => ?_) (fun c_1 => ?_)
  · have h := op_t c_1 h
    refine lv_aload_n hx hb dFu_find_48 rfl (lv_at hl 1 rfl) ?_
    refine va_get (D := D) (ci := 3) (v := .int (o1.1 0)) (C := RGr) (T := TGr) (N := 10) hx hb hts inGr hown hK hP 5 rfl rfl 0 (by decide) (hts _ wv_548) (fun _ h9 => h9) rfl dFu_find_49 ?_
    refine lv_iconst (v := 1) hx hb dFu_find_52 (by decide) ?_
    refine lv_iadd hx hb dFu_find_53 ?_
    refine lv_topi (fun x_2 ex_2 => ?_)
    have h := op_ks ex_2 h
    refine lv_istore_n (lv' := [(3, .int x_2), (0, .ref h0), (1, .ref h1), (2, .int v2)]) hx hb dFu_find_54 rfl hl (by decide) rfl (fun ls hl => ?_)
    exact (ih.2.2) _ _ _ _ _ h hP hD hS (lv_sub hl [1, 2, 3, 0] rfl)
  · have h := op_f c_1 h
    refine lv_aload_n hx hb dFu_find_25 rfl (lv_at hl 0 rfl) ?_
    refine va_get (D := D) (ci := 4) (v := .ref (a0 1)) (C := RFu) (T := TFu) (N := 5) hx hb hts inFu hown hK hP 0 rfl rfl 1 (by decide) (hts _ wv_242) (fun _ h9 => h9) rfl dFu_find_26 ?_
    refine lv_iload_n hx hb dFu_find_29 rfl (lv_at hl 3 rfl) ?_
    refine lv_iconst (v := 1) hx hb dFu_find_30 (by decide) ?_
    refine lv_iadd hx hb dFu_find_31 ?_
    refine lv_topi (fun x_3 ex_3 => ?_)
    have h := op_ks ex_3 h
    refine lv_iconst (v := 4) hx hb dFu_find_32 (by decide) ?_
    refine lv_imul hx hb dFu_find_33 ?_
    refine lv_topi (fun x_4 ex_4 => ?_)
    have h := op_ks ex_4 h
    refine lv_iload_n hx hb dFu_find_34 rfl (lv_at hl 2 rfl) ?_
    refine lv_iadd hx hb dFu_find_35 ?_
    refine lv_topi (fun x_5 ex_5 => ?_)
    have h := op_ks ex_5 h
    refine lv_iload_n hx hb dFu_find_36 rfl (lv_at hl 3 rfl) ?_
    refine lv_iload_n hx hb dFu_find_37 rfl (lv_at hl 2 rfl) ?_
    obtain ⟨q_6, hq_6, h⟩ := op_b h
    refine cf_calll (wc := []) (wr := wFu K h0 a0 o0 ++ wGr K h1 a1 o1) (va_runS (As := [.int v3, .int v2]) (rest := [.int x_5, .ref (a0 1)]) ⟨hx, hb, hml, hown, hts⟩ (mFu_inputWord l D K _ v3 v2 _ hq_6) (va_cwS 2 hts (cf_GS wv_1167 wv_1168 wv_159 wv_1169) rfl rfl rfl (by decide +kernel) ⟨Nat.le_of_ble_eq_true rfl, Nat.le_of_ble_eq_true rfl⟩) (cf_preS (wc := []) hE hP hD hS hA [] rfl (by decide +kernel)) rfl rfl hl.1 rfl (lv_room (Nat.le_of_ble_eq_true rfl)) dFu_find_38 ⟨Nat.le_of_ble_eq_true rfl, Nat.le_of_ble_eq_true rfl⟩) hP hD hS hA [] [0, 1, 2, 3, 4, 5, 6, 7, 8, 9, 10, 11] rfl rfl (by decide +kernel) (by decide +kernel) (fun r_7 _ H locs hw_8 hP hD hS => ?_)
    subst r_7
    have hP : va_P D vwCl (wFu K h0 a0 o0 ++ wGr K h1 a1 o1) H := hP.sub [0, 1, 2, 3, 4, 5, 6, 7, 8, 9, 10, 11] rfl
    have hD : va_D A (wFu K h0 a0 o0 ++ wGr K h1 a1 o1) := hD.sub [0, 1, 2, 3, 4, 5, 6, 7, 8, 9, 10, 11] (by decide +kernel) rfl
    obtain ⟨hi_9, h⟩ := op_n h
    refine va_last (D := D) hx hb hK hP hD hS 1 1 rfl rfl hi_9 dFu_find_41 (fun H locs hP hD hS => ?_)
    have hP : va_P D vwCl (wFu K h0 a0 (yp o0 1 x_5.toNatClampNeg q_6) ++ wGr K h1 a1 o1) H := hP
    have hD : va_D A (wFu K h0 a0 (yp o0 1 x_5.toNatClampNeg q_6) ++ wGr K h1 a1 o1) := hD
    obtain ⟨o_10, eo_10, h⟩ := op_kx h
    rw [← eo_10] at hP hD
    obtain ⟨x_11, ex_11⟩ : ∃ y : Int32, y = v3 + 1 := ⟨_, rfl⟩
    refine lv_iinc (v := x_11) (lv' := [(3, .int x_11), (0, .ref h0), (1, .ref h1), (2, .int v2)]) hx hb dFu_find_42 hl (k := 3) rfl (by rw [ex_11]; rfl) (by decide) rfl (fun ls hl => ?_)
    have h := op_ks ex_11 h
    refine lv_goto (tgt := 17) hx hb dFu_find_45 (by decide) ?_
    exact (ih.2.1) _ _ _ _ _ h hP hD hS (lv_sub hl [1, 2, 3, 0] rfl)
set_option maxHeartbeats 4000000 in
set_option maxRecDepth 100000 in
theorem bFu_find_10 {p : Program} {l : Launch} {e : Env} {s : State} {m : MethodId} {below : List Frame} {meth : Method} {c : Code} {A : Nat → Prop} {D : va_G} {K : Nat → ClassId} {h0 : Nat} {a0 : Nat → Nat} {h1 : Nat} {a1 : Nat → Nat} {AR : Array Value} (C : (dc_C p s m AR meth c cFu_find 4 (Option.none : Option Jvm.ClassFile.FieldType) yFu_find ∧ cf_E D K A s s.heap ∧ ∀ q, s.heap.size ≤ q → A q)) {n : Nat} (ih : IhFu_find p l e s m below meth c A D K h0 a0 h1 a1 AR n) (v2 : Int32) (o0 : cf_O) (o1 : cf_O) (r : cf_O) (h : fFu_find_10 (gFu_find n) v2 o0 o1 = some r) {H : Heap} {locs : List Loc} {ls : Array Slot} (hP : va_P D vwCl (wFu K h0 a0 o0 ++ wGr K h1 a1 o1) H) (hD : va_D A (wFu K h0 a0 o0 ++ wGr K h1 a1 o1)) (hS : va_S A s.heap H locs) (hl : lv_has ls 4 [(0, .ref h0), (1, .ref h1), (2, .int v2)]) : W p l e ({ frames := 1, cells := 0, slots := 0, locals := 22 }) s m AR below meth c H locs 0 0 (MQ below (va_Qv (fun (_ : Unit) => True) (fun (_ : Unit) t => cf_At D A (wFu K h0 a0 r ++ wGr K h1 a1 o1) t) A) AR s 0 0 A) (F0 m 10 ls []) := by
  obtain ⟨⟨hx, hb, hr, hts, hown, hlocks, hin, hml⟩, hE, hA⟩ := id C
  have hK := hE.k
  refine lv_iload_n hx hb dFu_find_10 rfl (lv_at hl 2 rfl) ?_
  refine lv_iconst (v := 4) hx hb dFu_find_11 (by decide) ?_
  refine lv_icmp_ge (tgt := 108) hx hb dFu_find_12 (by decide) (fun c_1 => ?_) (fun c_1 => ?_)
  · have h := op_t c_1 h
    refine lv_aload_n hx hb dFu_find_108 rfl (lv_at hl 0 rfl) ?_
    refine lv_iconst (v := 1) hx hb dFu_find_109 (by decide) ?_
    refine va_put (D := D) (ci := 4) (v := .int 1) (ty := .boolean) (C := RFu) (T := TFu) (N := 5) hx hb hts inFu tyFu tyokFu nmFu hown hK hP hD hS 0 rfl rfl 0 (by decide) (hts _ wv_240) (fun _ h9 => h9) rfl (by decide +kernel) rfl rfl (Nat.le_of_ble_eq_true rfl) dFu_find_110 (fun H locs hP hD hS => ?_)
    have hP : va_P D vwCl (wFu K h0 a0 (fp o0 0 1) ++ wGr K h1 a1 o1) H := hP
    have hD : va_D A (wFu K h0 a0 (fp o0 0 1) ++ wGr K h1 a1 o1) := hD
    obtain ⟨o_2, eo_2, h⟩ := op_kx h
    rw [← eo_2] at hP hD
    obtain rfl := Option.some.inj h
    exact dc_vret hx hb hr hlocks rfl hP hD hS dFu_find_113
  · have h := op_f c_1 h
    refine lv_iconst (v := 0) hx hb dFu_find_15 (by decide) ?_
    refine lv_istore_n (lv' := [(3, .int 0), (0, .ref h0), (1, .ref h1), (2, .int v2)]) hx hb dFu_find_16 rfl hl (by decide) rfl (fun ls hl => ?_)
    exact (ih.2.1) _ _ _ _ _ h hP hD hS (lv_sub hl [1, 2, 3, 0] rfl)
set_option maxHeartbeats 4000000 in
set_option maxRecDepth 100000 in
theorem bFu_find_0 {p : Program} {l : Launch} {e : Env} {s : State} {m : MethodId} {below : List Frame} {meth : Method} {c : Code} {A : Nat → Prop} {D : va_G} {K : Nat → ClassId} {h0 : Nat} {a0 : Nat → Nat} {h1 : Nat} {a1 : Nat → Nat} {AR : Array Value} (C : (dc_C p s m AR meth c cFu_find 4 (Option.none : Option Jvm.ClassFile.FieldType) yFu_find ∧ cf_E D K A s s.heap ∧ ∀ q, s.heap.size ≤ q → A q)) {n : Nat} (ih : IhFu_find p l e s m below meth c A D K h0 a0 h1 a1 AR n) (o0 : cf_O) (o1 : cf_O) (r : cf_O) (h : fFu_find_0 (gFu_find n) o0 o1 = some r) {H : Heap} {locs : List Loc} {ls : Array Slot} (hP : va_P D vwCl (wFu K h0 a0 o0 ++ wGr K h1 a1 o1) H) (hD : va_D A (wFu K h0 a0 o0 ++ wGr K h1 a1 o1)) (hS : va_S A s.heap H locs) (hl : lv_has ls 4 [(0, .ref h0), (1, .ref h1)]) : W p l e ({ frames := 1, cells := 0, slots := 0, locals := 22 }) s m AR below meth c H locs 0 0 (MQ below (va_Qv (fun (_ : Unit) => True) (fun (_ : Unit) t => cf_At D A (wFu K h0 a0 r ++ wGr K h1 a1 o1) t) A) AR s 0 0 A) (F0 m 0 ls []) := by
  obtain ⟨⟨hx, hb, hr, hts, hown, hlocks, hin, hml⟩, hE, hA⟩ := id C
  have hK := hE.k
  refine lv_aload_n hx hb dFu_find_0 rfl (lv_at hl 0 rfl) ?_
  refine va_get (D := D) (ci := 4) (v := .int (o0.1 0)) (C := RFu) (T := TFu) (N := 5) hx hb hts inFu hown hK hP 0 rfl rfl 0 (by decide) (hts _ wv_240) (fun _ h9 => h9) rfl dFu_find_1 ?_
  refine lv_if_eq (tgt := 8) hx hb dFu_find_4 (by decide) (fun c_1 => ?_) (fun c_1 => ?_)
  · have h := op_t c_1 h
    refine lv_iconst (v := 0) hx hb dFu_find_8 (by decide) ?_
    refine lv_istore_n (lv' := [(2, .int 0), (0, .ref h0), (1, .ref h1)]) hx hb dFu_find_9 rfl hl (by decide) rfl (fun ls hl => ?_)
    exact (ih.1) _ _ _ _ h hP hD hS (lv_sub hl [1, 2, 0] rfl)
  · have h := op_f c_1 h
    obtain rfl := Option.some.inj h
    exact dc_vret hx hb hr hlocks rfl hP hD hS dFu_find_7
theorem iFu_find {p : Program} {l : Launch} {e : Env} {s : State} {m : MethodId} {below : List Frame} {meth : Method} {c : Code} {A : Nat → Prop} {D : va_G} {K : Nat → ClassId} {h0 : Nat} {a0 : Nat → Nat} {h1 : Nat} {a1 : Nat → Nat} {AR : Array Value} (C : (dc_C p s m AR meth c cFu_find 4 (Option.none : Option Jvm.ClassFile.FieldType) yFu_find ∧ cf_E D K A s s.heap ∧ ∀ q, s.heap.size ≤ q → A q)) : ∀ n, IhFu_find p l e s m below meth c A D K h0 a0 h1 a1 AR n := by
  intro n
  induction n with
  | zero => exact ⟨(fun _ _ _ r h => by cases (show none = some r from h)), (fun _ _ _ _ r h => by cases (show none = some r from h)), (fun _ _ _ _ r h => by cases (show none = some r from h))⟩
  | succ n ih => exact ⟨fun x0 x1 x2 r h _ _ _ hP hD hS hl => bFu_find_10 C ih x0 x1 x2 r h hP hD hS hl, fun x0 x1 x2 x3 r h _ _ _ hP hD hS hl => bFu_find_17 C ih x0 x1 x2 x3 r h hP hD hS hl, fun x0 x1 x2 x3 r h _ _ _ hP hD hS hl => bFu_find_55 C ih x0 x1 x2 x3 r h hP hD hS hl⟩
set_option maxRecDepth 100000 in
theorem mFu_find (l : Launch) (D : va_G) (K : Nat → ClassId) (sz : Nat) (h0 : Nat) (a0 : Nat → Nat) (h1 : Nat) (a1 : Nat → Nat) (o0 : cf_O) (o1 : cf_O) (r : cf_O) (h : fFu_find o0 o1 = some r) : Met l yFu_find (Cond.code yFu_find cFu_find 4 (Option.none : Option Jvm.ClassFile.FieldType) :: cfB) ({ frames := 1, cells := 0, slots := 0, locals := 22 }) (va_Pc [.ref h0, .ref h1] (cf_Pre D K sz (wFu K h0 a0 o0 ++ wGr K h1 a1 o1))) (va_Qv (fun (_ : Unit) => True) (fun (_ : Unit) t => cf_At D (va_A (wFu K h0 a0 o0 ++ wGr K h1 a1 o1) sz) (wFu K h0 a0 r ++ wGr K h1 a1 o1) t) (va_A (wFu K h0 a0 o0 ++ wGr K h1 a1 o1) sz)) 0 0 (va_A (wFu K h0 a0 o0 ++ wGr K h1 a1 o1) sz) := by
  refine cf_ofW (y := yFu_find) (As := [.ref h0, .ref h1]) (WS := wFu K h0 a0 o0 ++ wGr K h1 a1 o1) (maxL := 4) (fun A => (va_Qv (fun (_ : Unit) => True) (fun (_ : Unit) t => cf_At D A (wFu K h0 a0 r ++ wGr K h1 a1 o1) t) A)) (by decide) (Nat.le_of_ble_eq_true rfl) ?_
  intro p e s m below meth c A ls En hsz hA hP hD hE hS hl
  have C : (dc_C p s m (([.ref h0, .ref h1] : List Value).toArray) meth c cFu_find 4 (Option.none : Option Jvm.ClassFile.FieldType) yFu_find ∧ cf_E D K A s s.heap ∧ ∀ q, s.heap.size ≤ q → A q) := ⟨En, hE, hA⟩
  exact bFu_find_0 C (iFu_find C cfFU) o0 o1 r h hP hD hS hl

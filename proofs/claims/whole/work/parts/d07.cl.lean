def yMp_writeTo : MethodName := ⟨"CellForge$Mapping", "writeTo", "(LCellForge$Script;LCellForge$Netlist;LCellForge$Graph;LCellForge$Library;)V"⟩
abbrev cMp_writeTo : ByteArray := prog_8_method_14_code
theorem dMp_writeTo_0 : decode cMp_writeTo 0 = .ok (.aload_n 1, 1) := by decide +kernel
theorem dMp_writeTo_1 : decode cMp_writeTo 1 = .ok (.aload_n 2, 1) := by decide +kernel
theorem dMp_writeTo_2 : decode cMp_writeTo 2 = .ok (.invokevirtual 168, 3) := by decide +kernel
theorem dMp_writeTo_5 : decode cMp_writeTo 5 = .ok (.iconst 0, 1) := by decide +kernel
theorem dMp_writeTo_6 : decode cMp_writeTo 6 = .ok (.istore 5, 2) := by decide +kernel
theorem dMp_writeTo_8 : decode cMp_writeTo 8 = .ok (.iload 5, 2) := by decide +kernel
theorem dMp_writeTo_10 : decode cMp_writeTo 10 = .ok (.aload_n 0, 1) := by decide +kernel
theorem dMp_writeTo_11 : decode cMp_writeTo 11 = .ok (.getfield 164, 3) := by decide +kernel
theorem dMp_writeTo_14 : decode cMp_writeTo 14 = .ok (.if_icmp .ge 108, 3) := by decide +kernel
theorem dMp_writeTo_17 : decode cMp_writeTo 17 = .ok (.aload_n 0, 1) := by decide +kernel
theorem dMp_writeTo_18 : decode cMp_writeTo 18 = .ok (.getfield 17, 3) := by decide +kernel
theorem dMp_writeTo_21 : decode cMp_writeTo 21 = .ok (.aload_n 0, 1) := by decide +kernel
theorem dMp_writeTo_22 : decode cMp_writeTo 22 = .ok (.getfield 11, 3) := by decide +kernel
theorem dMp_writeTo_25 : decode cMp_writeTo 25 = .ok (.iload 5, 2) := by decide +kernel
theorem dMp_writeTo_27 : decode cMp_writeTo 27 = .ok (.iaload, 1) := by decide +kernel
theorem dMp_writeTo_28 : decode cMp_writeTo 28 = .ok (.laload, 1) := by decide +kernel
theorem dMp_writeTo_29 : decode cMp_writeTo 29 = .ok (.lstore 6, 2) := by decide +kernel
theorem dMp_writeTo_31 : decode cMp_writeTo 31 = .ok (.lload 6, 2) := by decide +kernel
theorem dMp_writeTo_33 : decode cMp_writeTo 33 = .ok (.invokestatic 157, 3) := by decide +kernel
theorem dMp_writeTo_36 : decode cMp_writeTo 36 = .ok (.istore 8, 2) := by decide +kernel
theorem dMp_writeTo_38 : decode cMp_writeTo 38 = .ok (.aload_n 1, 1) := by decide +kernel
theorem dMp_writeTo_39 : decode cMp_writeTo 39 = .ok (.getfield 174, 3) := by decide +kernel
theorem dMp_writeTo_42 : decode cMp_writeTo 42 = .ok (.ldc 178, 2) := by decide +kernel
theorem dMp_writeTo_44 : decode cMp_writeTo 44 = .ok (.invokevirtual 180, 3) := by decide +kernel
theorem dMp_writeTo_47 : decode cMp_writeTo 47 = .ok (.pop, 1) := by decide +kernel
theorem dMp_writeTo_48 : decode cMp_writeTo 48 = .ok (.aload_n 1, 1) := by decide +kernel
theorem dMp_writeTo_49 : decode cMp_writeTo 49 = .ok (.aload 4, 2) := by decide +kernel
theorem dMp_writeTo_51 : decode cMp_writeTo 51 = .ok (.getfield 186, 3) := by decide +kernel
theorem dMp_writeTo_54 : decode cMp_writeTo 54 = .ok (.iload 8, 2) := by decide +kernel
theorem dMp_writeTo_56 : decode cMp_writeTo 56 = .ok (.laload, 1) := by decide +kernel
theorem dMp_writeTo_57 : decode cMp_writeTo 57 = .ok (.invokevirtual 189, 3) := by decide +kernel
theorem dMp_writeTo_60 : decode cMp_writeTo 60 = .ok (.iconst 0, 1) := by decide +kernel
theorem dMp_writeTo_61 : decode cMp_writeTo 61 = .ok (.istore 9, 2) := by decide +kernel
theorem dMp_writeTo_63 : decode cMp_writeTo 63 = .ok (.iload 9, 2) := by decide +kernel
theorem dMp_writeTo_65 : decode cMp_writeTo 65 = .ok (.aload 4, 2) := by decide +kernel
theorem dMp_writeTo_67 : decode cMp_writeTo 67 = .ok (.getfield 135, 3) := by decide +kernel
theorem dMp_writeTo_70 : decode cMp_writeTo 70 = .ok (.iload 8, 2) := by decide +kernel
theorem dMp_writeTo_72 : decode cMp_writeTo 72 = .ok (.iaload, 1) := by decide +kernel
theorem dMp_writeTo_73 : decode cMp_writeTo 73 = .ok (.if_icmp .ge 21, 3) := by decide +kernel
theorem dMp_writeTo_76 : decode cMp_writeTo 76 = .ok (.aload_n 1, 1) := by decide +kernel
theorem dMp_writeTo_77 : decode cMp_writeTo 77 = .ok (.aload_n 2, 1) := by decide +kernel
theorem dMp_writeTo_78 : decode cMp_writeTo 78 = .ok (.lload 6, 2) := by decide +kernel
theorem dMp_writeTo_80 : decode cMp_writeTo 80 = .ok (.iload 9, 2) := by decide +kernel
theorem dMp_writeTo_82 : decode cMp_writeTo 82 = .ok (.invokestatic 160, 3) := by decide +kernel
theorem dMp_writeTo_85 : decode cMp_writeTo 85 = .ok (.invokevirtual 193, 3) := by decide +kernel
theorem dMp_writeTo_88 : decode cMp_writeTo 88 = .ok (.iinc 9 1, 3) := by decide +kernel
theorem dMp_writeTo_91 : decode cMp_writeTo 91 = .ok (.goto (-28), 3) := by decide +kernel
theorem dMp_writeTo_94 : decode cMp_writeTo 94 = .ok (.aload_n 1, 1) := by decide +kernel
theorem dMp_writeTo_95 : decode cMp_writeTo 95 = .ok (.aload_n 2, 1) := by decide +kernel
theorem dMp_writeTo_96 : decode cMp_writeTo 96 = .ok (.aload_n 0, 1) := by decide +kernel
theorem dMp_writeTo_97 : decode cMp_writeTo 97 = .ok (.getfield 11, 3) := by decide +kernel
theorem dMp_writeTo_100 : decode cMp_writeTo 100 = .ok (.iload 5, 2) := by decide +kernel
theorem dMp_writeTo_102 : decode cMp_writeTo 102 = .ok (.iaload, 1) := by decide +kernel
theorem dMp_writeTo_103 : decode cMp_writeTo 103 = .ok (.invokevirtual 193, 3) := by decide +kernel
theorem dMp_writeTo_106 : decode cMp_writeTo 106 = .ok (.aload_n 1, 1) := by decide +kernel
theorem dMp_writeTo_107 : decode cMp_writeTo 107 = .ok (.getfield 174, 3) := by decide +kernel
theorem dMp_writeTo_110 : decode cMp_writeTo 110 = .ok (.bipush 10, 2) := by decide +kernel
theorem dMp_writeTo_112 : decode cMp_writeTo 112 = .ok (.invokevirtual 197, 3) := by decide +kernel
theorem dMp_writeTo_115 : decode cMp_writeTo 115 = .ok (.pop, 1) := by decide +kernel
theorem dMp_writeTo_116 : decode cMp_writeTo 116 = .ok (.iinc 5 1, 3) := by decide +kernel
theorem dMp_writeTo_119 : decode cMp_writeTo 119 = .ok (.goto (-111), 3) := by decide +kernel
theorem dMp_writeTo_122 : decode cMp_writeTo 122 = .ok (.iconst 0, 1) := by decide +kernel
theorem dMp_writeTo_123 : decode cMp_writeTo 123 = .ok (.istore 5, 2) := by decide +kernel
theorem dMp_writeTo_125 : decode cMp_writeTo 125 = .ok (.iload 5, 2) := by decide +kernel
theorem dMp_writeTo_127 : decode cMp_writeTo 127 = .ok (.aload_n 3, 1) := by decide +kernel
theorem dMp_writeTo_128 : decode cMp_writeTo 128 = .ok (.getfield 46, 3) := by decide +kernel
theorem dMp_writeTo_131 : decode cMp_writeTo 131 = .ok (.if_icmp .ge 24, 3) := by decide +kernel
theorem dMp_writeTo_134 : decode cMp_writeTo 134 = .ok (.aload_n 1, 1) := by decide +kernel
theorem dMp_writeTo_135 : decode cMp_writeTo 135 = .ok (.aload_n 2, 1) := by decide +kernel
theorem dMp_writeTo_136 : decode cMp_writeTo 136 = .ok (.iload 5, 2) := by decide +kernel
theorem dMp_writeTo_138 : decode cMp_writeTo 138 = .ok (.aload_n 3, 1) := by decide +kernel
theorem dMp_writeTo_139 : decode cMp_writeTo 139 = .ok (.getfield 49, 3) := by decide +kernel
theorem dMp_writeTo_142 : decode cMp_writeTo 142 = .ok (.iload 5, 2) := by decide +kernel
theorem dMp_writeTo_144 : decode cMp_writeTo 144 = .ok (.iaload, 1) := by decide +kernel
theorem dMp_writeTo_145 : decode cMp_writeTo 145 = .ok (.iconst 0, 1) := by decide +kernel
theorem dMp_writeTo_146 : decode cMp_writeTo 146 = .ok (.invokevirtual 200, 3) := by decide +kernel
theorem dMp_writeTo_149 : decode cMp_writeTo 149 = .ok (.iinc 5 1, 3) := by decide +kernel
theorem dMp_writeTo_152 : decode cMp_writeTo 152 = .ok (.goto (-27), 3) := by decide +kernel
theorem dMp_writeTo_155 : decode cMp_writeTo 155 = .ok (.aload_n 1, 1) := by decide +kernel
theorem dMp_writeTo_156 : decode cMp_writeTo 156 = .ok (.invokevirtual 204, 3) := by decide +kernel
theorem dMp_writeTo_159 : decode cMp_writeTo 159 = .ok (.return_, 1) := by decide +kernel
theorem wv_1968 : Cond.methodLink "CellForge$Mapping" 204 (⟨"CellForge$Script", "close", "()V"⟩ : MethodName) ∈ cfB := cf_in 1968 (by decide +kernel) rfl
theorem wv_1967 : Cond.methodLink "CellForge$Mapping" 200 (⟨"CellForge$Script", "writeResult", "(LCellForge$Netlist;IIZ)V"⟩ : MethodName) ∈ cfB := cf_in 1967 (by decide +kernel) rfl
theorem wv_471 : Cond.fieldLink "CellForge$Mapping" 174 "CellForge$Script" "signs" "Ljava/lang/StringBuilder;" ∈ cfB := cf_in 471 (by decide +kernel) rfl
theorem wv_1966 : Cond.methodLink "CellForge$Mapping" 197 (⟨"java/lang/StringBuilder", "append", "(C)Ljava/lang/StringBuilder;"⟩ : MethodName) ∈ cfB := cf_in 1966 (by decide +kernel) rfl
theorem wv_1965 : Cond.methodLink "CellForge$Mapping" 193 (⟨"CellForge$Script", "writeLiteral", "(LCellForge$Netlist;I)V"⟩ : MethodName) ∈ cfB := cf_in 1965 (by decide +kernel) rfl
theorem wv_615 : Cond.fieldLink "CellForge$Mapping" 186 "CellForge$Library" "names" "[J" ∈ cfB := cf_in 615 (by decide +kernel) rfl
theorem wv_1964 : Cond.methodLink "CellForge$Mapping" 189 (⟨"CellForge$Script", "writeName", "(J)V"⟩ : MethodName) ∈ cfB := cf_in 1964 (by decide +kernel) rfl
theorem wv_1963 : Cond.methodLink "CellForge$Mapping" 180 (⟨"java/lang/StringBuilder", "append", "(Ljava/lang/String;)Ljava/lang/StringBuilder;"⟩ : MethodName) ∈ cfB := cf_in 1963 (by decide +kernel) rfl
theorem wv_1961 : Cond.methodLink "CellForge$Mapping" 168 (⟨"CellForge$Script", "writeHead", "(LCellForge$Netlist;)V"⟩ : MethodName) ∈ cfB := cf_in 1961 (by decide +kernel) rfl
def yNl_takeNames : MethodName := ⟨"CellForge$Netlist", "takeNames", "(LCellForge$Text;[JII)Z"⟩
abbrev cNl_takeNames : ByteArray := prog_9_method_9_code
theorem dNl_takeNames_0 : decode cNl_takeNames 0 = .ok (.aload_n 0, 1) := by decide +kernel
theorem dNl_takeNames_1 : decode cNl_takeNames 1 = .ok (.getfield 101, 3) := by decide +kernel
theorem dNl_takeNames_4 : decode cNl_takeNames 4 = .ok (.iconst 1, 1) := by decide +kernel
theorem dNl_takeNames_5 : decode cNl_takeNames 5 = .ok (.isub, 1) := by decide +kernel
theorem dNl_takeNames_6 : decode cNl_takeNames 6 = .ok (.istore 4, 2) := by decide +kernel
theorem dNl_takeNames_8 : decode cNl_takeNames 8 = .ok (.iload 4, 2) := by decide +kernel
theorem dNl_takeNames_10 : decode cNl_takeNames 10 = .ok (.iconst 1, 1) := by decide +kernel
theorem dNl_takeNames_11 : decode cNl_takeNames 11 = .ok (.if_icmp .lt 9, 3) := by decide +kernel
theorem dNl_takeNames_14 : decode cNl_takeNames 14 = .ok (.iload 4, 2) := by decide +kernel
theorem dNl_takeNames_16 : decode cNl_takeNames 16 = .ok (.iload_n 3, 1) := by decide +kernel
theorem dNl_takeNames_17 : decode cNl_takeNames 17 = .ok (.if_icmp .le 5, 3) := by decide +kernel
theorem dNl_takeNames_20 : decode cNl_takeNames 20 = .ok (.iconst 0, 1) := by decide +kernel
theorem dNl_takeNames_21 : decode cNl_takeNames 21 = .ok (.ireturn, 1) := by decide +kernel
theorem dNl_takeNames_22 : decode cNl_takeNames 22 = .ok (.iconst 0, 1) := by decide +kernel
theorem dNl_takeNames_23 : decode cNl_takeNames 23 = .ok (.istore 5, 2) := by decide +kernel
theorem dNl_takeNames_25 : decode cNl_takeNames 25 = .ok (.iload 5, 2) := by decide +kernel
theorem dNl_takeNames_27 : decode cNl_takeNames 27 = .ok (.iload 4, 2) := by decide +kernel
theorem dNl_takeNames_29 : decode cNl_takeNames 29 = .ok (.if_icmp .ge 36, 3) := by decide +kernel
theorem dNl_takeNames_32 : decode cNl_takeNames 32 = .ok (.aload_n 1, 1) := by decide +kernel
theorem dNl_takeNames_33 : decode cNl_takeNames 33 = .ok (.iload_n 2, 1) := by decide +kernel
theorem dNl_takeNames_34 : decode cNl_takeNames 34 = .ok (.iload 5, 2) := by decide +kernel
theorem dNl_takeNames_36 : decode cNl_takeNames 36 = .ok (.iadd, 1) := by decide +kernel
theorem dNl_takeNames_37 : decode cNl_takeNames 37 = .ok (.aload_n 0, 1) := by decide +kernel
theorem dNl_takeNames_38 : decode cNl_takeNames 38 = .ok (.iload 5, 2) := by decide +kernel
theorem dNl_takeNames_40 : decode cNl_takeNames 40 = .ok (.iconst 1, 1) := by decide +kernel
theorem dNl_takeNames_41 : decode cNl_takeNames 41 = .ok (.iadd, 1) := by decide +kernel
theorem dNl_takeNames_42 : decode cNl_takeNames 42 = .ok (.invokevirtual 142, 3) := by decide +kernel
theorem dNl_takeNames_45 : decode cNl_takeNames 45 = .ok (.lastore, 1) := by decide +kernel
theorem dNl_takeNames_46 : decode cNl_takeNames 46 = .ok (.aload_n 1, 1) := by decide +kernel
theorem dNl_takeNames_47 : decode cNl_takeNames 47 = .ok (.iload_n 2, 1) := by decide +kernel
theorem dNl_takeNames_48 : decode cNl_takeNames 48 = .ok (.iload 5, 2) := by decide +kernel
theorem dNl_takeNames_50 : decode cNl_takeNames 50 = .ok (.iadd, 1) := by decide +kernel
theorem dNl_takeNames_51 : decode cNl_takeNames 51 = .ok (.laload, 1) := by decide +kernel
theorem dNl_takeNames_52 : decode cNl_takeNames 52 = .ok (.lconst 0, 1) := by decide +kernel
theorem dNl_takeNames_53 : decode cNl_takeNames 53 = .ok (.lcmp, 1) := by decide +kernel
theorem dNl_takeNames_54 : decode cNl_takeNames 54 = .ok (.ifCond .ne 5, 3) := by decide +kernel
theorem dNl_takeNames_57 : decode cNl_takeNames 57 = .ok (.iconst 0, 1) := by decide +kernel
theorem dNl_takeNames_58 : decode cNl_takeNames 58 = .ok (.ireturn, 1) := by decide +kernel
theorem dNl_takeNames_59 : decode cNl_takeNames 59 = .ok (.iinc 5 1, 3) := by decide +kernel
theorem dNl_takeNames_62 : decode cNl_takeNames 62 = .ok (.goto (-37), 3) := by decide +kernel
theorem dNl_takeNames_65 : decode cNl_takeNames 65 = .ok (.iconst 1, 1) := by decide +kernel
theorem dNl_takeNames_66 : decode cNl_takeNames 66 = .ok (.ireturn, 1) := by decide +kernel
theorem wv_988 : Cond.methodLink "CellForge$Netlist" 142 (⟨"CellForge$Text", "name", "(I)J"⟩ : MethodName) ∈ cfB := cf_in 988 (by decide +kernel) rfl
theorem wv_214 : Cond.fieldLink "CellForge$Netlist" 101 "CellForge$Text" "words" "I" ∈ cfB := cf_in 214 (by decide +kernel) rfl
def yNl_hasTwice : MethodName := ⟨"CellForge$Netlist", "hasTwice", "([JI)Z"⟩
abbrev cNl_hasTwice : ByteArray := prog_9_method_10_code
theorem dNl_hasTwice_0 : decode cNl_hasTwice 0 = .ok (.iconst 0, 1) := by decide +kernel
theorem dNl_hasTwice_1 : decode cNl_hasTwice 1 = .ok (.istore_n 2, 1) := by decide +kernel
theorem dNl_hasTwice_2 : decode cNl_hasTwice 2 = .ok (.iload_n 2, 1) := by decide +kernel
theorem dNl_hasTwice_3 : decode cNl_hasTwice 3 = .ok (.iload_n 1, 1) := by decide +kernel
theorem dNl_hasTwice_4 : decode cNl_hasTwice 4 = .ok (.if_icmp .ge 34, 3) := by decide +kernel
theorem dNl_hasTwice_7 : decode cNl_hasTwice 7 = .ok (.iconst 0, 1) := by decide +kernel
theorem dNl_hasTwice_8 : decode cNl_hasTwice 8 = .ok (.istore_n 3, 1) := by decide +kernel
theorem dNl_hasTwice_9 : decode cNl_hasTwice 9 = .ok (.iload_n 3, 1) := by decide +kernel
theorem dNl_hasTwice_10 : decode cNl_hasTwice 10 = .ok (.iload_n 2, 1) := by decide +kernel
theorem dNl_hasTwice_11 : decode cNl_hasTwice 11 = .ok (.if_icmp .ge 21, 3) := by decide +kernel
theorem dNl_hasTwice_14 : decode cNl_hasTwice 14 = .ok (.aload_n 0, 1) := by decide +kernel
theorem dNl_hasTwice_15 : decode cNl_hasTwice 15 = .ok (.iload_n 2, 1) := by decide +kernel
theorem dNl_hasTwice_16 : decode cNl_hasTwice 16 = .ok (.laload, 1) := by decide +kernel
theorem dNl_hasTwice_17 : decode cNl_hasTwice 17 = .ok (.aload_n 0, 1) := by decide +kernel
theorem dNl_hasTwice_18 : decode cNl_hasTwice 18 = .ok (.iload_n 3, 1) := by decide +kernel
theorem dNl_hasTwice_19 : decode cNl_hasTwice 19 = .ok (.laload, 1) := by decide +kernel
theorem dNl_hasTwice_20 : decode cNl_hasTwice 20 = .ok (.lcmp, 1) := by decide +kernel
theorem dNl_hasTwice_21 : decode cNl_hasTwice 21 = .ok (.ifCond .ne 5, 3) := by decide +kernel
theorem dNl_hasTwice_24 : decode cNl_hasTwice 24 = .ok (.iconst 1, 1) := by decide +kernel
theorem dNl_hasTwice_25 : decode cNl_hasTwice 25 = .ok (.ireturn, 1) := by decide +kernel
theorem dNl_hasTwice_26 : decode cNl_hasTwice 26 = .ok (.iinc 3 1, 3) := by decide +kernel
theorem dNl_hasTwice_29 : decode cNl_hasTwice 29 = .ok (.goto (-20), 3) := by decide +kernel
theorem dNl_hasTwice_32 : decode cNl_hasTwice 32 = .ok (.iinc 2 1, 3) := by decide +kernel
theorem dNl_hasTwice_35 : decode cNl_hasTwice 35 = .ok (.goto (-33), 3) := by decide +kernel
theorem dNl_hasTwice_38 : decode cNl_hasTwice 38 = .ok (.iconst 0, 1) := by decide +kernel
theorem dNl_hasTwice_39 : decode cNl_hasTwice 39 = .ok (.ireturn, 1) := by decide +kernel
def yNl_scanInputs : MethodName := ⟨"CellForge$Netlist", "scanInputs", "(LCellForge$Text;)I"⟩
abbrev cNl_scanInputs : ByteArray := prog_9_method_5_code
theorem dNl_scanInputs_0 : decode cNl_scanInputs 0 = .ok (.aload_n 1, 1) := by decide +kernel
theorem dNl_scanInputs_1 : decode cNl_scanInputs 1 = .ok (.iconst 0, 1) := by decide +kernel
theorem dNl_scanInputs_2 : decode cNl_scanInputs 2 = .ok (.ldc 112, 2) := by decide +kernel
theorem dNl_scanInputs_4 : decode cNl_scanInputs 4 = .ok (.invokevirtual 91, 3) := by decide +kernel
theorem dNl_scanInputs_7 : decode cNl_scanInputs 7 = .ok (.ifCond .eq 17, 3) := by decide +kernel
theorem dNl_scanInputs_10 : decode cNl_scanInputs 10 = .ok (.aload_n 1, 1) := by decide +kernel
theorem dNl_scanInputs_11 : decode cNl_scanInputs 11 = .ok (.aload_n 0, 1) := by decide +kernel
theorem dNl_scanInputs_12 : decode cNl_scanInputs 12 = .ok (.getfield 9, 3) := by decide +kernel
theorem dNl_scanInputs_15 : decode cNl_scanInputs 15 = .ok (.iconst 0, 1) := by decide +kernel
theorem dNl_scanInputs_16 : decode cNl_scanInputs 16 = .ok (.bipush 8, 2) := by decide +kernel
theorem dNl_scanInputs_18 : decode cNl_scanInputs 18 = .ok (.invokestatic 114, 3) := by decide +kernel
theorem dNl_scanInputs_21 : decode cNl_scanInputs 21 = .ok (.ifCond .ne 5, 3) := by decide +kernel
theorem dNl_scanInputs_24 : decode cNl_scanInputs 24 = .ok (.iconst 1, 1) := by decide +kernel
theorem dNl_scanInputs_25 : decode cNl_scanInputs 25 = .ok (.ireturn, 1) := by decide +kernel
theorem dNl_scanInputs_26 : decode cNl_scanInputs 26 = .ok (.aload_n 0, 1) := by decide +kernel
theorem dNl_scanInputs_27 : decode cNl_scanInputs 27 = .ok (.aload_n 1, 1) := by decide +kernel
theorem dNl_scanInputs_28 : decode cNl_scanInputs 28 = .ok (.getfield 101, 3) := by decide +kernel
theorem dNl_scanInputs_31 : decode cNl_scanInputs 31 = .ok (.iconst 1, 1) := by decide +kernel
theorem dNl_scanInputs_32 : decode cNl_scanInputs 32 = .ok (.isub, 1) := by decide +kernel
theorem dNl_scanInputs_33 : decode cNl_scanInputs 33 = .ok (.putfield 69, 3) := by decide +kernel
theorem dNl_scanInputs_36 : decode cNl_scanInputs 36 = .ok (.aload_n 0, 1) := by decide +kernel
theorem dNl_scanInputs_37 : decode cNl_scanInputs 37 = .ok (.getfield 9, 3) := by decide +kernel
theorem dNl_scanInputs_40 : decode cNl_scanInputs 40 = .ok (.aload_n 0, 1) := by decide +kernel
theorem dNl_scanInputs_41 : decode cNl_scanInputs 41 = .ok (.getfield 69, 3) := by decide +kernel
theorem dNl_scanInputs_44 : decode cNl_scanInputs 44 = .ok (.invokestatic 118, 3) := by decide +kernel
theorem dNl_scanInputs_47 : decode cNl_scanInputs 47 = .ok (.ifCond .eq 7, 3) := by decide +kernel
theorem dNl_scanInputs_50 : decode cNl_scanInputs 50 = .ok (.iconst 2, 1) := by decide +kernel
theorem dNl_scanInputs_51 : decode cNl_scanInputs 51 = .ok (.goto 4, 3) := by decide +kernel
theorem dNl_scanInputs_54 : decode cNl_scanInputs 54 = .ok (.iconst 0, 1) := by decide +kernel
theorem dNl_scanInputs_55 : decode cNl_scanInputs 55 = .ok (.ireturn, 1) := by decide +kernel
theorem wv_984 : Cond.methodLink "CellForge$Netlist" 91 (⟨"CellForge$Text", "isWord", "(ILjava/lang/String;)Z"⟩ : MethodName) ∈ cfB := cf_in 984 (by decide +kernel) rfl
theorem wv_985 : Cond.methodLink "CellForge$Netlist" 114 (⟨"CellForge$Netlist", "takeNames", "(LCellForge$Text;[JII)Z"⟩ : MethodName) ∈ cfB := cf_in 985 (by decide +kernel) rfl
theorem wv_987 : Cond.code (⟨"CellForge$Netlist", "takeNames", "(LCellForge$Text;[JII)Z"⟩ : MethodName) prog_9_method_9_code 6 (Option.some Jvm.ClassFile.FieldType.boolean) ∈ cfB := cf_in 987 (by decide +kernel) rfl
theorem wv_986 : Cond.static (⟨"CellForge$Netlist", "takeNames", "(LCellForge$Text;[JII)Z"⟩ : MethodName) ∈ cfB := cf_in 986 (by decide +kernel) rfl
theorem wv_483 : Cond.fieldLink "CellForge$Netlist" 69 "CellForge$Netlist" "inputs" "I" ∈ cfB := cf_in 483 (by decide +kernel) rfl
theorem wv_989 : Cond.methodLink "CellForge$Netlist" 118 (⟨"CellForge$Netlist", "hasTwice", "([JI)Z"⟩ : MethodName) ∈ cfB := cf_in 989 (by decide +kernel) rfl
theorem wv_991 : Cond.code (⟨"CellForge$Netlist", "hasTwice", "([JI)Z"⟩ : MethodName) prog_9_method_10_code 4 (Option.some Jvm.ClassFile.FieldType.boolean) ∈ cfB := cf_in 991 (by decide +kernel) rfl
theorem wv_990 : Cond.static (⟨"CellForge$Netlist", "hasTwice", "([JI)Z"⟩ : MethodName) ∈ cfB := cf_in 990 (by decide +kernel) rfl
def yNl_scanOutputs : MethodName := ⟨"CellForge$Netlist", "scanOutputs", "(LCellForge$Text;)I"⟩
abbrev cNl_scanOutputs : ByteArray := prog_9_method_6_code
theorem dNl_scanOutputs_0 : decode cNl_scanOutputs 0 = .ok (.aload_n 1, 1) := by decide +kernel
theorem dNl_scanOutputs_1 : decode cNl_scanOutputs 1 = .ok (.iconst 0, 1) := by decide +kernel
theorem dNl_scanOutputs_2 : decode cNl_scanOutputs 2 = .ok (.ldc 122, 2) := by decide +kernel
theorem dNl_scanOutputs_4 : decode cNl_scanOutputs 4 = .ok (.invokevirtual 91, 3) := by decide +kernel
theorem dNl_scanOutputs_7 : decode cNl_scanOutputs 7 = .ok (.ifCond .eq 17, 3) := by decide +kernel
theorem dNl_scanOutputs_10 : decode cNl_scanOutputs 10 = .ok (.aload_n 1, 1) := by decide +kernel
theorem dNl_scanOutputs_11 : decode cNl_scanOutputs 11 = .ok (.aload_n 0, 1) := by decide +kernel
theorem dNl_scanOutputs_12 : decode cNl_scanOutputs 12 = .ok (.getfield 15, 3) := by decide +kernel
theorem dNl_scanOutputs_15 : decode cNl_scanOutputs 15 = .ok (.iconst 0, 1) := by decide +kernel
theorem dNl_scanOutputs_16 : decode cNl_scanOutputs 16 = .ok (.bipush 6, 2) := by decide +kernel
theorem dNl_scanOutputs_18 : decode cNl_scanOutputs 18 = .ok (.invokestatic 114, 3) := by decide +kernel
theorem dNl_scanOutputs_21 : decode cNl_scanOutputs 21 = .ok (.ifCond .ne 5, 3) := by decide +kernel
theorem dNl_scanOutputs_24 : decode cNl_scanOutputs 24 = .ok (.iconst 1, 1) := by decide +kernel
theorem dNl_scanOutputs_25 : decode cNl_scanOutputs 25 = .ok (.ireturn, 1) := by decide +kernel
theorem dNl_scanOutputs_26 : decode cNl_scanOutputs 26 = .ok (.aload_n 0, 1) := by decide +kernel
theorem dNl_scanOutputs_27 : decode cNl_scanOutputs 27 = .ok (.aload_n 1, 1) := by decide +kernel
theorem dNl_scanOutputs_28 : decode cNl_scanOutputs 28 = .ok (.getfield 101, 3) := by decide +kernel
theorem dNl_scanOutputs_31 : decode cNl_scanOutputs 31 = .ok (.iconst 1, 1) := by decide +kernel
theorem dNl_scanOutputs_32 : decode cNl_scanOutputs 32 = .ok (.isub, 1) := by decide +kernel
theorem dNl_scanOutputs_33 : decode cNl_scanOutputs 33 = .ok (.putfield 72, 3) := by decide +kernel
theorem dNl_scanOutputs_36 : decode cNl_scanOutputs 36 = .ok (.aload_n 0, 1) := by decide +kernel
theorem dNl_scanOutputs_37 : decode cNl_scanOutputs 37 = .ok (.aload_n 1, 1) := by decide +kernel
theorem dNl_scanOutputs_38 : decode cNl_scanOutputs 38 = .ok (.getfield 53, 3) := by decide +kernel
theorem dNl_scanOutputs_41 : decode cNl_scanOutputs 41 = .ok (.putfield 124, 3) := by decide +kernel
theorem dNl_scanOutputs_44 : decode cNl_scanOutputs 44 = .ok (.aload_n 0, 1) := by decide +kernel
theorem dNl_scanOutputs_45 : decode cNl_scanOutputs 45 = .ok (.getfield 15, 3) := by decide +kernel
theorem dNl_scanOutputs_48 : decode cNl_scanOutputs 48 = .ok (.aload_n 0, 1) := by decide +kernel
theorem dNl_scanOutputs_49 : decode cNl_scanOutputs 49 = .ok (.getfield 72, 3) := by decide +kernel
theorem dNl_scanOutputs_52 : decode cNl_scanOutputs 52 = .ok (.invokestatic 118, 3) := by decide +kernel
theorem dNl_scanOutputs_55 : decode cNl_scanOutputs 55 = .ok (.ifCond .eq 7, 3) := by decide +kernel
theorem dNl_scanOutputs_58 : decode cNl_scanOutputs 58 = .ok (.iconst 2, 1) := by decide +kernel
theorem dNl_scanOutputs_59 : decode cNl_scanOutputs 59 = .ok (.goto 4, 3) := by decide +kernel
theorem dNl_scanOutputs_62 : decode cNl_scanOutputs 62 = .ok (.iconst 0, 1) := by decide +kernel
theorem dNl_scanOutputs_63 : decode cNl_scanOutputs 63 = .ok (.ireturn, 1) := by decide +kernel
theorem wv_485 : Cond.fieldLink "CellForge$Netlist" 72 "CellForge$Netlist" "outputs" "I" ∈ cfB := cf_in 485 (by decide +kernel) rfl
theorem wv_210 : Cond.fieldLink "CellForge$Netlist" 53 "CellForge$Text" "number" "I" ∈ cfB := cf_in 210 (by decide +kernel) rfl
theorem wv_493 : Cond.fieldLink "CellForge$Netlist" 124 "CellForge$Netlist" "outputLine" "I" ∈ cfB := cf_in 493 (by decide +kernel) rfl
set_option maxHeartbeats 4000000 in
set_option maxRecDepth 100000 in
theorem bJString_coder__S17_14 {p : Program} {l : Launch} {e : Env} {s : State} {m : MethodId} {below : List Frame} {meth : Method} {c : Code} {A : Nat → Prop} {D : va_G} {K : Nat → ClassId} {AR : Array Value} (C : (dc_C p s m AR meth c cJString_coder_ 1 (Option.some Jvm.ClassFile.FieldType.byte) yJString_coder_ ∧ cf_E D K A s s.heap ∧ ∀ q, s.heap.size ≤ q → A q)) (s0 : Int32) (r : Int32) (h : fJString_coder__S17_14 s0 = some r) {H : Heap} {locs : List Loc} {ls : Array Slot} (hP : va_P D vwCl ([]) H) (hD : va_D A ([])) (hS : va_S A s.heap H locs) (hl : lv_has ls 1 []) : W p l e ({ frames := 0, cells := 0, slots := 0, locals := 0 }) s m AR below meth c H locs 0 0 (MQ below (va_Qi (fun (x : Int32) (_ : Unit) => x = r) (fun (_ : Unit) t => cf_At D A ([]) t) A) AR s 0 0 A) (F0 m 14 ls [.int s0]) := by
  obtain ⟨⟨hx, hb, hr, hts, hown, hlocks, hin, hml⟩, hE, hA⟩ := id C
  have hK := hE.k
  obtain ⟨hz_1, h⟩ := op_w h
  obtain rfl := Option.some.inj h
  exact dc_zretn hx hb hr (op_nb hz_1) hlocks rfl hP hD hS dJString_coder__14
set_option maxHeartbeats 4000000 in
set_option maxRecDepth 100000 in
theorem bJString_coder__S17_0 {p : Program} {l : Launch} {e : Env} {s : State} {m : MethodId} {below : List Frame} {meth : Method} {c : Code} {A : Nat → Prop} {D : va_G} {K : Nat → ClassId} {AR : Array Value} (C : (dc_C p s m AR meth c cJString_coder_ 1 (Option.some Jvm.ClassFile.FieldType.byte) yJString_coder_ ∧ cf_E D K A s s.heap ∧ ∀ q, s.heap.size ≤ q → A q)) (r : Int32) (h : fJString_coder__S17_0 = some r) {H : Heap} {locs : List Loc} {ls : Array Slot} (hP : va_P D vwCl ([]) H) (hD : va_D A ([])) (hS : va_S A s.heap H locs) (hl : lv_has ls 1 [(0, .ref (K 117))]) : W p l e ({ frames := 0, cells := 0, slots := 0, locals := 0 }) s m AR below meth c H locs 0 0 (MQ below (va_Qi (fun (x : Int32) (_ : Unit) => x = r) (fun (_ : Unit) t => cf_At D A ([]) t) A) AR s 0 0 A) (F0 m 0 ls []) := by
  obtain ⟨⟨hx, hb, hr, hts, hown, hlocks, hin, hml⟩, hE, hA⟩ := id C
  have hK := hE.k
  refine va_gets hx hb hE.2.2.2.2.2.2.1 hS hown (hts _ wv_764) (fun _ h9 => h9) dJString_coder__0 ?_
  refine lv_if_eq (tgt := 13) hx hb dJString_coder__3 (by decide) (fun c_1 => absurd c_1 (by decide)) (fun _ => ?_)
  refine lv_aload_n hx hb dJString_coder__6 rfl (lv_at hl 0 rfl) ?_
  refine vk_getf hx hb (hE.s 17 rfl).2.2.1 hS hown (hts _ wv_1736) (fun _ h9 => h9) dJString_coder__7 ?_
  refine lv_goto (tgt := 14) hx hb dJString_coder__10 (by decide) ?_
  exact bJString_coder__S17_14 C _ _ h hP hD hS (lv_sub hl [] rfl)
set_option maxRecDepth 100000 in
theorem mJString_coder__S17 (l : Launch) (D : va_G) (K : Nat → ClassId) (sz : Nat) (r : Int32) (h : fJString_coder__S17 = some r) : Met l yJString_coder_ (Cond.code yJString_coder_ cJString_coder_ 1 (Option.some Jvm.ClassFile.FieldType.byte) :: cfB) ({ frames := 0, cells := 0, slots := 0, locals := 0 }) (va_Pc [.ref (K 117)] (cf_Pre D K sz ([]))) (va_Qi (fun (x : Int32) (_ : Unit) => x = r) (fun (_ : Unit) t => cf_At D (va_A ([]) sz) ([]) t) (va_A ([]) sz)) 0 0 (va_A ([]) sz) := by
  refine cf_ofW (y := yJString_coder_) (As := [.ref (K 117)]) (WS := []) (maxL := 1) (fun A => (va_Qi (fun (x : Int32) (_ : Unit) => x = r) (fun (_ : Unit) t => cf_At D A ([]) t) A)) (by decide) (Nat.le_of_ble_eq_true rfl) ?_
  intro p e s m below meth c A ls En hsz hA hP hD hE hS hl
  have C : (dc_C p s m (([.ref (K 117)] : List Value).toArray) meth c cJString_coder_ 1 (Option.some Jvm.ClassFile.FieldType.byte) yJString_coder_ ∧ cf_E D K A s s.heap ∧ ∀ q, s.heap.size ≤ q → A q) := ⟨En, hE, hA⟩
  exact bJString_coder__S17_0 C r h hP hD hS hl
set_option maxHeartbeats 4000000 in
set_option maxRecDepth 100000 in
theorem bJString_length__S17_0 {p : Program} {l : Launch} {e : Env} {s : State} {m : MethodId} {below : List Frame} {meth : Method} {c : Code} {A : Nat → Prop} {D : va_G} {K : Nat → ClassId} {AR : Array Value} (C : (dc_C p s m AR meth c cJString_length_ 1 (Option.some Jvm.ClassFile.FieldType.int) yJString_length_ ∧ cf_E D K A s s.heap ∧ ∀ q, s.heap.size ≤ q → A q)) (r : Int32) (h : fJString_length__S17_0 = some r) {H : Heap} {locs : List Loc} {ls : Array Slot} (hP : va_P D vwCl ([]) H) (hD : va_D A ([])) (hS : va_S A s.heap H locs) (hl : lv_has ls 1 [(0, .ref (K 117))]) : W p l e ({ frames := 1, cells := 0, slots := 0, locals := 20 }) s m AR below meth c H locs 0 0 (MQ below (va_Qi (fun (x : Int32) (_ : Unit) => x = r) (fun (_ : Unit) t => cf_At D A ([]) t) A) AR s 0 0 A) (F0 m 0 ls []) := by
  obtain ⟨⟨hx, hb, hr, hts, hown, hlocks, hin, hml⟩, hE, hA⟩ := id C
  have hK := hE.k
  refine lv_aload_n hx hb dJString_length__0 rfl (lv_at hl 0 rfl) ?_
  refine vk_getf hx hb (hE.s 17 rfl).2.2.2.1 hS hown (hts _ wv_1735) (fun _ h9 => h9) dJString_length__1 ?_
  refine va_tlen (v := 5) hx hb (hE.s 17 rfl).2.2.2.2 hS rfl dJString_length__4 ?_
  refine lv_aload_n hx hb dJString_length__5 rfl (lv_at hl 0 rfl) ?_
  obtain ⟨q_1, hq_1, h⟩ := op_b h
  refine cf_calli (wc := []) (wr := []) (va_runV (As := []) (rest := [.int 5]) ⟨hx, hb, hml, hown, hts⟩ (mJString_coder__S17 l D K _ _ hq_1) (cwV 0 hts (cf_GV wv_760 wv_761 wv_762 wv_168 wv_763) rfl rfl rfl (by decide +kernel) ⟨Nat.le_of_ble_eq_true rfl, Nat.le_of_ble_eq_true rfl⟩) (cf_preO (wc := []) (hE.s 17 rfl).2.1 hE hP hD hS hA [] rfl (by decide +kernel)) rfl rfl hl.1 rfl (lv_room (Nat.le_of_ble_eq_true rfl)) dJString_length__6 ⟨Nat.le_of_ble_eq_true rfl, Nat.le_of_ble_eq_true rfl⟩) hP hD hS hA [] [] rfl rfl (by decide +kernel) (by decide +kernel) (fun r_2 _ H locs hw_3 hP hD hS => ?_)
  subst r_2
  have hP : va_P D vwCl ([]) H := hP.sub [] rfl
  have hD : va_D A ([]) := hD.sub [] (by decide +kernel) rfl
  refine lv_ishr hx hb dJString_length__9 ?_
  refine lv_topi (fun x_4 ex_4 => ?_)
  have h := op_ks ex_4 h
  obtain rfl := Option.some.inj h
  exact dc_iret hx hb hr hlocks rfl hP hD hS dJString_length__10
set_option maxRecDepth 100000 in
theorem mJString_length__S17 (l : Launch) (D : va_G) (K : Nat → ClassId) (sz : Nat) (r : Int32) (h : fJString_length__S17 = some r) : Met l yJString_length_ (Cond.code yJString_length_ cJString_length_ 1 (Option.some Jvm.ClassFile.FieldType.int) :: cfB) ({ frames := 1, cells := 0, slots := 0, locals := 20 }) (va_Pc [.ref (K 117)] (cf_Pre D K sz ([]))) (va_Qi (fun (x : Int32) (_ : Unit) => x = r) (fun (_ : Unit) t => cf_At D (va_A ([]) sz) ([]) t) (va_A ([]) sz)) 0 0 (va_A ([]) sz) := by
  refine cf_ofW (y := yJString_length_) (As := [.ref (K 117)]) (WS := []) (maxL := 1) (fun A => (va_Qi (fun (x : Int32) (_ : Unit) => x = r) (fun (_ : Unit) t => cf_At D A ([]) t) A)) (by decide) (Nat.le_of_ble_eq_true rfl) ?_
  intro p e s m below meth c A ls En hsz hA hP hD hE hS hl
  have C : (dc_C p s m (([.ref (K 117)] : List Value).toArray) meth c cJString_length_ 1 (Option.some Jvm.ClassFile.FieldType.int) yJString_length_ ∧ cf_E D K A s s.heap ∧ ∀ q, s.heap.size ≤ q → A q) := ⟨En, hE, hA⟩
  exact bJString_length__S17_0 C r h hP hD hS hl
set_option maxHeartbeats 4000000 in
set_option maxRecDepth 100000 in
theorem bAS_inflateIfNeededFor_S17_21 {p : Program} {l : Launch} {e : Env} {s : State} {m : MethodId} {below : List Frame} {meth : Method} {c : Code} {A : Nat → Prop} {D : va_G} {K : Nat → ClassId} {h0 : Nat} {a0 : Nat → Nat} {AR : Array Value} (C : (dc_C p s m AR meth c cAS_inflateIfNeededFor 2 (Option.none : Option Jvm.ClassFile.FieldType) yAS_inflateIfNeededFor ∧ cf_E D K A s s.heap ∧ ∀ q, s.heap.size ≤ q → A q)) (o0 : cf_O) (r : Unit) (h : fAS_inflateIfNeededFor_S17_21 o0 = some r) {H : Heap} {locs : List Loc} {ls : Array Slot} (hP : va_P D vwCl (wSB K h0 a0 o0) H) (hD : va_D A (wSB K h0 a0 o0)) (hS : va_S A s.heap H locs) (hl : lv_has ls 2 []) : W p l e ({ frames := 1, cells := 0, slots := 0, locals := 20 }) s m AR below meth c H locs 0 0 (MQ below (va_Qv (fun (_ : Unit) => True) (fun (_ : Unit) t => cf_At D A (wSB K h0 a0 o0) t) A) AR s 0 0 A) (F0 m 21 ls []) := by
  obtain ⟨⟨hx, hb, hr, hts, hown, hlocks, hin, hml⟩, hE, hA⟩ := id C
  have hK := hE.k
  obtain rfl := Option.some.inj h
  exact dc_vret hx hb hr hlocks rfl hP hD hS dAS_inflateIfNeededFor_21
set_option maxHeartbeats 4000000 in
set_option maxRecDepth 100000 in
theorem bAS_inflateIfNeededFor_S17_0 {p : Program} {l : Launch} {e : Env} {s : State} {m : MethodId} {below : List Frame} {meth : Method} {c : Code} {A : Nat → Prop} {D : va_G} {K : Nat → ClassId} {h0 : Nat} {a0 : Nat → Nat} {AR : Array Value} (C : (dc_C p s m AR meth c cAS_inflateIfNeededFor 2 (Option.none : Option Jvm.ClassFile.FieldType) yAS_inflateIfNeededFor ∧ cf_E D K A s s.heap ∧ ∀ q, s.heap.size ≤ q → A q)) (o0 : cf_O) (r : Unit) (h : fAS_inflateIfNeededFor_S17_0 o0 = some r) {H : Heap} {locs : List Loc} {ls : Array Slot} (hP : va_P D vwCl (wSB K h0 a0 o0) H) (hD : va_D A (wSB K h0 a0 o0)) (hS : va_S A s.heap H locs) (hl : lv_has ls 2 [(0, .ref h0), (1, .ref (K 117))]) : W p l e ({ frames := 1, cells := 0, slots := 0, locals := 20 }) s m AR below meth c H locs 0 0 (MQ below (va_Qv (fun (_ : Unit) => True) (fun (_ : Unit) t => cf_At D A (wSB K h0 a0 o0) t) A) AR s 0 0 A) (F0 m 0 ls []) := by
  obtain ⟨⟨hx, hb, hr, hts, hown, hlocks, hin, hml⟩, hE, hA⟩ := id C
  have hK := hE.k
  refine va_gets hx hb hE.2.2.2.2.2.2.1 hS hown (hts _ wv_444) (fun _ h9 => h9) dAS_inflateIfNeededFor_0 ?_
  refine lv_if_eq (tgt := 21) hx hb dAS_inflateIfNeededFor_3 (by decide) (fun c_1 => absurd c_1 (by decide)) (fun _ => ?_)
  refine lv_aload_n hx hb dAS_inflateIfNeededFor_6 rfl (lv_at hl 0 rfl) ?_
  refine va_get (D := D) (ci := 13) (v := .int (o0.1 1)) (C := RSB) (T := TSB) (N := 4) hx hb hts inSB hown hK hP 0 rfl rfl 1 (by decide) (hts _ wv_454) (fun _ h9 => h9) rfl dAS_inflateIfNeededFor_7 ?_
  refine lv_aload_n hx hb dAS_inflateIfNeededFor_10 rfl (lv_at hl 1 rfl) ?_
  obtain ⟨q_2, hq_2, h⟩ := op_b h
  refine cf_calli (wc := []) (wr := wSB K h0 a0 o0) (va_runV (As := []) (rest := [.int (o0.1 1)]) ⟨hx, hb, hml, hown, hts⟩ (mJString_coder__S17 l D K _ _ hq_2) (cwV 0 hts (cf_GV wv_1619 wv_761 wv_762 wv_168 wv_763) rfl rfl rfl (by decide +kernel) ⟨Nat.le_of_ble_eq_true rfl, Nat.le_of_ble_eq_true rfl⟩) (cf_preO (wc := []) (hE.s 17 rfl).2.1 hE hP hD hS hA [] rfl (by decide +kernel)) rfl rfl hl.1 rfl (lv_room (Nat.le_of_ble_eq_true rfl)) dAS_inflateIfNeededFor_11 ⟨Nat.le_of_ble_eq_true rfl, Nat.le_of_ble_eq_true rfl⟩) hP hD hS hA [] [0, 1] rfl rfl (by decide +kernel) (by decide +kernel) (fun r_3 _ H locs hw_4 hP hD hS => ?_)
  subst r_3
  have hP : va_P D vwCl (wSB K h0 a0 o0) H := hP.sub [0, 1] rfl
  have hD : va_D A (wSB K h0 a0 o0) := hD.sub [0, 1] (by decide +kernel) rfl
  refine lv_icmp_eq (tgt := 21) hx hb dAS_inflateIfNeededFor_14 (by decide) (fun c_5 => ?_) (fun c_5 => ?_)
  · have h := op_t c_5 h
    exact bAS_inflateIfNeededFor_S17_21 C _ _ h hP hD hS (lv_sub hl [] rfl)
  · have h := op_f c_5 h
    refine lv_aload_n hx hb dAS_inflateIfNeededFor_17 rfl (lv_at hl 0 rfl) ?_
    cases h
set_option maxRecDepth 100000 in
theorem mAS_inflateIfNeededFor_S17 (l : Launch) (D : va_G) (K : Nat → ClassId) (sz : Nat) (h0 : Nat) (a0 : Nat → Nat) (o0 : cf_O) (r : Unit) (h : fAS_inflateIfNeededFor_S17 o0 = some r) : Met l yAS_inflateIfNeededFor (Cond.code yAS_inflateIfNeededFor cAS_inflateIfNeededFor 2 (Option.none : Option Jvm.ClassFile.FieldType) :: cfB) ({ frames := 1, cells := 0, slots := 0, locals := 20 }) (va_Pc [.ref h0, .ref (K 117)] (cf_Pre D K sz (wSB K h0 a0 o0))) (va_Qv (fun (_ : Unit) => True) (fun (_ : Unit) t => cf_At D (va_A (wSB K h0 a0 o0) sz) (wSB K h0 a0 o0) t) (va_A (wSB K h0 a0 o0) sz)) 0 0 (va_A (wSB K h0 a0 o0) sz) := by
  refine cf_ofW (y := yAS_inflateIfNeededFor) (As := [.ref h0, .ref (K 117)]) (WS := wSB K h0 a0 o0) (maxL := 2) (fun A => (va_Qv (fun (_ : Unit) => True) (fun (_ : Unit) t => cf_At D A (wSB K h0 a0 o0) t) A)) (by decide) (Nat.le_of_ble_eq_true rfl) ?_
  intro p e s m below meth c A ls En hsz hA hP hD hE hS hl
  have C : (dc_C p s m (([.ref h0, .ref (K 117)] : List Value).toArray) meth c cAS_inflateIfNeededFor 2 (Option.none : Option Jvm.ClassFile.FieldType) yAS_inflateIfNeededFor ∧ cf_E D K A s s.heap ∧ ∀ q, s.heap.size ≤ q → A q) := ⟨En, hE, hA⟩
  exact bAS_inflateIfNeededFor_S17_0 C o0 r h hP hD hS hl
set_option maxRecDepth 100000 in
theorem nJString_getBytes_ABIB_S17_SB0_0 (v2 : Int32) (v3 : Int32) (o0 : cf_O) (r : cf_O) (h : fJString_getBytes_ABIB_S17_SB0_0 v2 v3 o0 = some r) : phSB o0 ≤ phSB r := by
  have hm : phSB o0 ≤ phSB o0 := Nat.le_refl _
  obtain ⟨q_1, hq_1, h⟩ := op_b h
  rcases (Classical.em (q_1 = v3)).symm with c_4 | c_4
  · have h := op_f c_4 h
    cases h
  · have h := op_t c_4 h
    obtain ⟨x_5, ex_5, h⟩ := op_kx h
    obtain ⟨hi_6, h⟩ := op_n h
    obtain ⟨o_7, eo_7, h⟩ := op_kx h
    have hm : phSB o0 ≤ phSB o_7 := by rw [eo_7]; exact hm
    obtain rfl := Option.some.inj h
    exact hm
theorem nJString_getBytes_ABIB_S17_SB0 (v2 : Int32) (v3 : Int32) (o0 : cf_O) (r : cf_O) (h : fJString_getBytes_ABIB_S17_SB0 v2 v3 o0 = some r) : phSB o0 ≤ phSB r := nJString_getBytes_ABIB_S17_SB0_0  v2 v3 o0 r h
set_option maxHeartbeats 4000000 in
set_option maxRecDepth 100000 in
theorem bJString_getBytes_ABIB_S17_SB0_0 {p : Program} {l : Launch} {e : Env} {s : State} {m : MethodId} {below : List Frame} {meth : Method} {c : Code} {A : Nat → Prop} {D : va_G} {K : Nat → ClassId} {h0 : Nat} {a0 : Nat → Nat} {AR : Array Value} (C : (dc_C p s m AR meth c cJString_getBytes_ABIB 4 (Option.none : Option Jvm.ClassFile.FieldType) yJString_getBytes_ABIB ∧ cf_E D K A s s.heap ∧ ∀ q, s.heap.size ≤ q → A q)) (v2 : Int32) (v3 : Int32) (o0 : cf_O) (r : cf_O) (h : fJString_getBytes_ABIB_S17_SB0_0 v2 v3 o0 = some r) {H : Heap} {locs : List Loc} {ls : Array Slot} (hP : va_P D vwCl (wSB K h0 a0 o0) H) (hD : va_D A (wSB K h0 a0 o0)) (hS : va_S A s.heap H locs) (hl : lv_has ls 4 [(0, .ref (K 117)), (1, .ref (a0 0)), (2, .int v2), (3, .int v3)]) : W p l e ({ frames := 1, cells := 0, slots := 0, locals := 60 }) s m AR below meth c H locs 0 0 (MQ below (va_Qv (fun (_ : Unit) => True) (fun (_ : Unit) t => cf_At D A (wSB K h0 a0 r) t) A) AR s 0 0 A) (F0 m 0 ls []) := by
  obtain ⟨⟨hx, hb, hr, hts, hown, hlocks, hin, hml⟩, hE, hA⟩ := id C
  have hK := hE.k
  refine lv_aload_n hx hb dJString_getBytes_ABIB_0 rfl (lv_at hl 0 rfl) ?_
  obtain ⟨q_1, hq_1, h⟩ := op_b h
  refine cf_calli (wc := []) (wr := wSB K h0 a0 o0) (va_runV (As := []) (rest := []) ⟨hx, hb, hml, hown, hts⟩ (mJString_coder__S17 l D K _ _ hq_1) (cwV 0 hts (cf_GV wv_760 wv_761 wv_762 wv_168 wv_763) rfl rfl rfl (by decide +kernel) ⟨Nat.le_of_ble_eq_true rfl, Nat.le_of_ble_eq_true rfl⟩) (cf_preO (wc := []) (hE.s 17 rfl).2.1 hE hP hD hS hA [] rfl (by decide +kernel)) rfl rfl hl.1 rfl (lv_room (Nat.le_of_ble_eq_true rfl)) dJString_getBytes_ABIB_1 ⟨Nat.le_of_ble_eq_true rfl, Nat.le_of_ble_eq_true rfl⟩) hP hD hS hA [] [0, 1] rfl rfl (by decide +kernel) (by decide +kernel) (fun r_2 _ H locs hw_3 hP hD hS => ?_)
  subst r_2
  have hP : va_P D vwCl (wSB K h0 a0 o0) H := hP.sub [0, 1] rfl
  have hD : va_D A (wSB K h0 a0 o0) := hD.sub [0, 1] (by decide +kernel) rfl
  refine lv_iload_n hx hb dJString_getBytes_ABIB_4 rfl (lv_at hl 3 rfl) ?_
  refine lv_icmp_ne (tgt := 28) hx hb dJString_getBytes_ABIB_5 (by decide) (fun c_4 => ?_) (fun c_4 => ?_)
  · have h := op_f c_4 h
    refine lv_aload_n hx hb dJString_getBytes_ABIB_28 rfl (lv_at hl 0 rfl) ?_
    refine vk_getf hx hb (hE.s 17 rfl).2.2.2.1 hS hown (hts _ wv_1735) (fun _ h9 => h9) dJString_getBytes_ABIB_29 ?_
    refine lv_iconst (v := 0) hx hb dJString_getBytes_ABIB_32 (by decide) ?_
    refine lv_aload_n hx hb dJString_getBytes_ABIB_33 rfl (lv_at hl 1 rfl) ?_
    refine lv_iload_n hx hb dJString_getBytes_ABIB_34 rfl (lv_at hl 2 rfl) ?_
    refine lv_aload_n hx hb dJString_getBytes_ABIB_35 rfl (lv_at hl 0 rfl) ?_
    refine vk_getf hx hb (hE.s 17 rfl).2.2.2.1 hS hown (hts _ wv_1735) (fun _ h9 => h9) dJString_getBytes_ABIB_36 ?_
    refine va_tlen (v := 5) hx hb (hE.s 17 rfl).2.2.2.2 hS rfl dJString_getBytes_ABIB_39 ?_
    cases h
  · have h := op_t c_4 h
    refine lv_aload_n hx hb dJString_getBytes_ABIB_8 rfl (lv_at hl 0 rfl) ?_
    refine vk_getf hx hb (hE.s 17 rfl).2.2.2.1 hS hown (hts _ wv_1735) (fun _ h9 => h9) dJString_getBytes_ABIB_9 ?_
    refine lv_iconst (v := 0) hx hb dJString_getBytes_ABIB_12 (by decide) ?_
    refine lv_aload_n hx hb dJString_getBytes_ABIB_13 rfl (lv_at hl 1 rfl) ?_
    refine lv_iload_n hx hb dJString_getBytes_ABIB_14 rfl (lv_at hl 2 rfl) ?_
    refine lv_iload_n hx hb dJString_getBytes_ABIB_15 rfl (lv_at hl 3 rfl) ?_
    refine lv_ishl hx hb dJString_getBytes_ABIB_16 ?_
    refine lv_topi (fun x_5 ex_5 => ?_)
    have h := op_ks ex_5 h
    refine lv_aload_n hx hb dJString_getBytes_ABIB_17 rfl (lv_at hl 0 rfl) ?_
    refine vk_getf hx hb (hE.s 17 rfl).2.2.2.1 hS hown (hts _ wv_1735) (fun _ h9 => h9) dJString_getBytes_ABIB_18 ?_
    refine va_tlen (v := 5) hx hb (hE.s 17 rfl).2.2.2.2 hS rfl dJString_getBytes_ABIB_21 ?_
    obtain ⟨hi_6, h⟩ := op_n h
    refine vk_copyt (D := D) (f := cf_sb 17) hx hb (hml.trans hl.1.symm) hown (hts _ wv_1643) (hts _ wv_1295) (hts _ wv_1294) (hts _ wv_187) hK hP hD hS (hE.s 17 rfl).2.2.2.2 1 2 rfl rfl (by decide) (fun z => hi_6 (Or.inl z)) (by decide) (by decide) (Nat.not_lt.mp (fun z => hi_6 (Or.inr z))) (by decide) (Nat.le_of_ble_eq_true rfl) (Nat.le_of_ble_eq_true rfl) dJString_getBytes_ABIB_22 (fun H locs hP hD hS => ?_)
    have hP : va_P D vwCl (wSB K h0 a0 (cb o0 0 17 x_5 5)) H := hP
    have hD : va_D A (wSB K h0 a0 (cb o0 0 17 x_5 5)) := hD
    obtain ⟨o_7, eo_7, h⟩ := op_kx h
    rw [← eo_7] at hP hD
    refine lv_goto (tgt := 43) hx hb dJString_getBytes_ABIB_25 (by decide) ?_
    obtain rfl := Option.some.inj h
    exact dc_vret hx hb hr hlocks rfl hP hD hS dJString_getBytes_ABIB_43
set_option maxRecDepth 100000 in
theorem mJString_getBytes_ABIB_S17_SB0 (l : Launch) (D : va_G) (K : Nat → ClassId) (sz : Nat) (v2 : Int32) (v3 : Int32) (h0 : Nat) (a0 : Nat → Nat) (o0 : cf_O) (r : cf_O) (h : fJString_getBytes_ABIB_S17_SB0 v2 v3 o0 = some r) : Met l yJString_getBytes_ABIB (Cond.code yJString_getBytes_ABIB cJString_getBytes_ABIB 4 (Option.none : Option Jvm.ClassFile.FieldType) :: cfB) ({ frames := 1, cells := 0, slots := 0, locals := 60 }) (va_Pc [.ref (K 117), .ref (a0 0), .int v2, .int v3] (cf_Pre D K sz (wSB K h0 a0 o0))) (va_Qv (fun (_ : Unit) => True) (fun (_ : Unit) t => cf_At D (va_A (wSB K h0 a0 o0) sz) (wSB K h0 a0 r) t) (va_A (wSB K h0 a0 o0) sz)) 0 0 (va_A (wSB K h0 a0 o0) sz) := by
  refine cf_ofW (y := yJString_getBytes_ABIB) (As := [.ref (K 117), .ref (a0 0), .int v2, .int v3]) (WS := wSB K h0 a0 o0) (maxL := 4) (fun A => (va_Qv (fun (_ : Unit) => True) (fun (_ : Unit) t => cf_At D A (wSB K h0 a0 r) t) A)) (by decide) (Nat.le_of_ble_eq_true rfl) ?_
  intro p e s m below meth c A ls En hsz hA hP hD hE hS hl
  have C : (dc_C p s m (([.ref (K 117), .ref (a0 0), .int v2, .int v3] : List Value).toArray) meth c cJString_getBytes_ABIB 4 (Option.none : Option Jvm.ClassFile.FieldType) yJString_getBytes_ABIB ∧ cf_E D K A s s.heap ∧ ∀ q, s.heap.size ≤ q → A q) := ⟨En, hE, hA⟩
  exact bJString_getBytes_ABIB_S17_SB0_0 C v2 v3 o0 r h hP hD hS hl
set_option maxRecDepth 100000 in
theorem nAS_putStringAt_S17_0 (v1 : Int32) (o0 : cf_O) (r : cf_O) (h : fAS_putStringAt_S17_0 v1 o0 = some r) : phSB o0 ≤ phSB r := by
  have hm : phSB o0 ≤ phSB o0 := Nat.le_refl _
  obtain ⟨q_1, hq_1, h⟩ := op_b h
  obtain ⟨q_3, hq_3, h⟩ := op_b h
  have hm : phSB o0 ≤ phSB q_3 := Nat.le_trans hm (nJString_getBytes_ABIB_S17_SB0 _ _ _ _ hq_3)
  obtain rfl := Option.some.inj h
  exact hm
theorem nAS_putStringAt_S17 (v1 : Int32) (o0 : cf_O) (r : cf_O) (h : fAS_putStringAt_S17 v1 o0 = some r) : phSB o0 ≤ phSB r := nAS_putStringAt_S17_0  v1 o0 r h
set_option maxHeartbeats 4000000 in
set_option maxRecDepth 100000 in
theorem bAS_putStringAt_S17_0 {p : Program} {l : Launch} {e : Env} {s : State} {m : MethodId} {below : List Frame} {meth : Method} {c : Code} {A : Nat → Prop} {D : va_G} {K : Nat → ClassId} {h0 : Nat} {a0 : Nat → Nat} {AR : Array Value} (C : (dc_C p s m AR meth c cAS_putStringAt 3 (Option.none : Option Jvm.ClassFile.FieldType) yAS_putStringAt ∧ cf_E D K A s s.heap ∧ ∀ q, s.heap.size ≤ q → A q)) (v1 : Int32) (o0 : cf_O) (r : cf_O) (h : fAS_putStringAt_S17_0 v1 o0 = some r) {H : Heap} {locs : List Loc} {ls : Array Slot} (hP : va_P D vwCl (wSB K h0 a0 o0) H) (hD : va_D A (wSB K h0 a0 o0)) (hS : va_S A s.heap H locs) (hl : lv_has ls 3 [(0, .ref h0), (1, .int v1), (2, .ref (K 117))]) : W p l e ({ frames := 2, cells := 0, slots := 0, locals := 83 }) s m AR below meth c H locs 0 0 (MQ below (va_Qv (fun (_ : Unit) => True) (fun (_ : Unit) t => cf_At D A (wSB K h0 a0 r) t) A) AR s 0 0 A) (F0 m 0 ls []) := by
  obtain ⟨⟨hx, hb, hr, hts, hown, hlocks, hin, hml⟩, hE, hA⟩ := id C
  have hK := hE.k
  refine lv_aload_n hx hb dAS_putStringAt_0 rfl (lv_at hl 0 rfl) ?_
  refine lv_aload_n hx hb dAS_putStringAt_1 rfl (lv_at hl 2 rfl) ?_
  obtain ⟨q_1, hq_1, h⟩ := op_b h
  refine dc_callv (va_runU (As := [.ref (K 117)]) (rest := []) ⟨hx, hb, hml, hown, hts⟩ (mAS_inflateIfNeededFor_S17 l D K _ h0 a0 o0 _ hq_1) (cf_cwU (C := "java/lang/StringBuilder") 1 hts (cf_G1 wv_1618) rfl rfl rfl (hts _ wv_166) (hts _ wv_1615) (hts _ wv_2793) (va_Nw.use rfl (hE.n 32 rfl)) (hts _ wv_1617) (by decide +kernel) ⟨Nat.le_of_ble_eq_true rfl, Nat.le_of_ble_eq_true rfl⟩) (dc_preV hE hP hD hS hA rfl 0 rfl) rfl rfl hl.1 rfl (lv_room (Nat.le_of_ble_eq_true rfl)) dAS_putStringAt_2 ⟨Nat.le_of_ble_eq_true rfl, Nat.le_of_ble_eq_true rfl⟩) hP hD hS hA (fun H locs hP hD hS => ?_)
  refine lv_aload_n hx hb dAS_putStringAt_5 rfl (lv_at hl 2 rfl) ?_
  refine lv_aload_n hx hb dAS_putStringAt_6 rfl (lv_at hl 0 rfl) ?_
  refine va_get (D := D) (ci := 13) (v := .ref (a0 0)) (C := RSB) (T := TSB) (N := 4) hx hb hts inSB hown hK hP 0 rfl rfl 0 (by decide) (hts _ wv_453) (fun _ h9 => h9) rfl dAS_putStringAt_7 ?_
  refine lv_iload_n hx hb dAS_putStringAt_10 rfl (lv_at hl 1 rfl) ?_
  refine lv_aload_n hx hb dAS_putStringAt_11 rfl (lv_at hl 0 rfl) ?_
  refine va_get (D := D) (ci := 13) (v := .int (o0.1 1)) (C := RSB) (T := TSB) (N := 4) hx hb hts inSB hown hK hP 0 rfl rfl 1 (by decide) (hts _ wv_454) (fun _ h9 => h9) rfl dAS_putStringAt_12 ?_
  obtain ⟨q_3, hq_3, h⟩ := op_b h
  refine cf_callv (wc := wSB K h0 a0 o0) (wr := []) (va_runV (As := [.ref (a0 0), .int v1, .int (o0.1 1)]) (rest := []) ⟨hx, hb, hml, hown, hts⟩ (mJString_getBytes_ABIB_S17_SB0 l D K _ v1 (o0.1 1) h0 a0 o0 _ hq_3) (cwV 3 hts (cf_GV wv_1639 wv_1640 wv_1641 wv_168 wv_1642) rfl rfl rfl (by decide +kernel) ⟨Nat.le_of_ble_eq_true rfl, Nat.le_of_ble_eq_true rfl⟩) (cf_preO (wc := wSB K h0 a0 o0) (hE.s 17 rfl).2.1 hE hP hD hS hA [0, 1] rfl (by decide +kernel)) rfl rfl hl.1 rfl (lv_room (Nat.le_of_ble_eq_true rfl)) dAS_putStringAt_15 ⟨Nat.le_of_ble_eq_true rfl, Nat.le_of_ble_eq_true rfl⟩) hP hD hS hA [0, 1] [] rfl rfl (by decide +kernel) (by decide +kernel) (fun _ H locs hw_4 hP hD hS => ?_)
  have hP : va_P D vwCl (wSB K h0 a0 q_3) H := hP.sub [0, 1] rfl
  have hD : va_D A (wSB K h0 a0 q_3) := hD.sub [0, 1] (by decide +kernel) rfl
  obtain rfl := Option.some.inj h
  exact dc_vret hx hb hr hlocks rfl hP hD hS dAS_putStringAt_18
set_option maxRecDepth 100000 in
theorem mAS_putStringAt_S17 (l : Launch) (D : va_G) (K : Nat → ClassId) (sz : Nat) (v1 : Int32) (h0 : Nat) (a0 : Nat → Nat) (o0 : cf_O) (r : cf_O) (h : fAS_putStringAt_S17 v1 o0 = some r) : Met l yAS_putStringAt (Cond.code yAS_putStringAt cAS_putStringAt 3 (Option.none : Option Jvm.ClassFile.FieldType) :: cfB) ({ frames := 2, cells := 0, slots := 0, locals := 83 }) (va_Pc [.ref h0, .int v1, .ref (K 117)] (cf_Pre D K sz (wSB K h0 a0 o0))) (va_Qv (fun (_ : Unit) => True) (fun (_ : Unit) t => cf_At D (va_A (wSB K h0 a0 o0) sz) (wSB K h0 a0 r) t) (va_A (wSB K h0 a0 o0) sz)) 0 0 (va_A (wSB K h0 a0 o0) sz) := by
  refine cf_ofW (y := yAS_putStringAt) (As := [.ref h0, .int v1, .ref (K 117)]) (WS := wSB K h0 a0 o0) (maxL := 3) (fun A => (va_Qv (fun (_ : Unit) => True) (fun (_ : Unit) t => cf_At D A (wSB K h0 a0 r) t) A)) (by decide) (Nat.le_of_ble_eq_true rfl) ?_
  intro p e s m below meth c A ls En hsz hA hP hD hE hS hl
  have C : (dc_C p s m (([.ref h0, .int v1, .ref (K 117)] : List Value).toArray) meth c cAS_putStringAt 3 (Option.none : Option Jvm.ClassFile.FieldType) yAS_putStringAt ∧ cf_E D K A s s.heap ∧ ∀ q, s.heap.size ≤ q → A q) := ⟨En, hE, hA⟩
  exact bAS_putStringAt_S17_0 C v1 o0 r h hP hD hS hl
set_option maxRecDepth 100000 in
theorem nAS_appendS_S17_33 (v2 : Int32) (o0 : cf_O) (r : cf_O) (h : fAS_appendS_S17_33 v2 o0 = some r) : phSB o0 ≤ phSB r := by
  have hm : phSB o0 ≤ phSB o0 := Nat.le_refl _
  obtain ⟨x_1, ex_1, h⟩ := op_kx h
  obtain ⟨o_2, eo_2, h⟩ := op_kx h
  have hm : phSB o0 ≤ phSB o_2 := by rw [eo_2]; exact hm
  obtain rfl := Option.some.inj h
  exact hm
set_option maxRecDepth 100000 in
theorem nAS_appendS_S17_24 (v2 : Int32) (o0 : cf_O) (r : cf_O) (h : fAS_appendS_S17_24 v2 o0 = some r) : phSB o0 ≤ phSB r := by
  have hm : phSB o0 ≤ phSB o0 := Nat.le_refl _
  obtain ⟨q_1, hq_1, h⟩ := op_b h
  have hm : phSB o0 ≤ phSB q_1 := Nat.le_trans hm (nAS_putStringAt_S17 _ _ _ hq_1)
  exact Nat.le_trans hm (nAS_appendS_S17_33 _ _ _ h)
set_option maxRecDepth 100000 in
theorem nAS_appendS_S17_13 (s0 : Int32) (o0 : cf_O) (r : cf_O) (h : fAS_appendS_S17_13 s0 o0 = some r) : phSB o0 ≤ phSB r := by
  have hm : phSB o0 ≤ phSB o0 := Nat.le_refl _
  obtain ⟨x_1, ex_1, h⟩ := op_kx h
  obtain ⟨q_2, hq_2, h⟩ := op_b h
  have hm : phSB o0 ≤ phSB q_2 := Nat.le_trans hm (nAS_ensureCapacityInternal _ _ _ hq_2)
  exact Nat.le_trans hm (nAS_appendS_S17_24 _ _ _ h)
set_option maxRecDepth 100000 in
theorem nAS_appendS_S17_0 (o0 : cf_O) (r : cf_O) (h : fAS_appendS_S17_0 o0 = some r) : phSB o0 ≤ phSB r := by
  have hm : phSB o0 ≤ phSB o0 := Nat.le_refl _
  obtain ⟨q_1, hq_1, h⟩ := op_b h
  exact Nat.le_trans hm (nAS_appendS_S17_13 _ _ _ h)
theorem nAS_appendS_S17 (o0 : cf_O) (r : cf_O) (h : fAS_appendS_S17 o0 = some r) : phSB o0 ≤ phSB r := nAS_appendS_S17_0  o0 r h
set_option maxHeartbeats 4000000 in
set_option maxRecDepth 100000 in
theorem bAS_appendS_S17_33 {p : Program} {l : Launch} {e : Env} {s : State} {m : MethodId} {below : List Frame} {meth : Method} {c : Code} {A : Nat → Prop} {D : va_G} {K : Nat → ClassId} {h0 : Nat} {os : cf_O} {AR : Array Value} (C : (dc_C p s m AR meth c cAS_appendS 3 (Option.some (Jvm.ClassFile.FieldType.object "java/lang/AbstractStringBuilder")) yAS_appendS ∧ cf_E D K A s s.heap ∧ ∀ q, s.heap.size ≤ q → A q)) (v2 : Int32) (o0 : cf_O) (r : cf_O) (h : fAS_appendS_S17_33 v2 o0 = some r) {a0 : Nat → Nat} {H : Heap} {locs : List Loc} {ls : Array Slot} (hg : phSB os ≤ phSB o0) (hP : va_P D vwCl (wSB K h0 a0 o0) H) (hD : va_D A (wSB K h0 a0 o0)) (hS : va_S A s.heap H locs) (hl : lv_has ls 3 [(0, .ref h0), (2, .int v2)]) : W p l e ({ frames := 4, cells := (gC (phSB os) (phSB r)), slots := (gS (phSB os) (phSB r)), locals := 124 }) s m AR below meth c H locs (gC (phSB os) (phSB o0)) (gS (phSB os) (phSB o0)) (MQ below (va_Qr (fun (_ : Nat → Nat) => True) (fun (u : Nat → Nat) q t => cf_At D A (wSB K h0 u r) t ∧ q = h0) A) AR s (gC (phSB os) (phSB r)) (gS (phSB os) (phSB r)) A) (F0 m 33 ls []) := by
  obtain ⟨⟨hx, hb, hr, hts, hown, hlocks, hin, hml⟩, hE, hA⟩ := id C
  have hK := hE.k
  refine lv_aload_n hx hb dAS_appendS_33 rfl (lv_at hl 0 rfl) ?_
  refine lv_dup hx hb dAS_appendS_34 rfl ?_
  refine va_get (D := D) (ci := 13) (v := .int (o0.1 3)) (C := RSB) (T := TSB) (N := 4) hx hb hts inSB hown hK hP 0 rfl rfl 3 (by decide) (hts _ wv_457) (fun _ h9 => h9) rfl dAS_appendS_35 ?_
  refine lv_iload_n hx hb dAS_appendS_38 rfl (lv_at hl 1 rfl) ?_
  refine lv_iadd hx hb dAS_appendS_39 ?_
  refine lv_topi (fun x_1 ex_1 => ?_)
  have h := op_ks ex_1 h
  refine va_put (D := D) (ci := 13) (v := .int x_1) (ty := .int) (C := RSB) (T := TSB) (N := 4) hx hb hts inSB tySB tyokSB nmSB hown hK hP hD hS 0 rfl rfl 3 (by decide) (hts _ wv_457) (fun _ h9 => h9) rfl (by decide +kernel) rfl rfl (Nat.le_of_ble_eq_true rfl) dAS_appendS_40 (fun H locs hP hD hS => ?_)
  have hP : va_P D vwCl (wSB K h0 a0 (fp o0 3 x_1)) H := hP
  have hD : va_D A (wSB K h0 a0 (fp o0 3 x_1)) := hD
  obtain ⟨o_2, eo_2, h⟩ := op_kx h
  rw [← eo_2] at hP hD
  have hf_3 : phSB o_2 = phSB o0 := by rw [eo_2]; rfl
  refine W.widen (k := (gC (phSB os) (phSB o_2))) (n := (gS (phSB os) (phSB o_2))) (by rw [hf_3]; exact Nat.le_refl _) (by rw [hf_3]; exact Nat.le_refl _) ?_
  have hg : phSB os ≤ phSB o_2 := by rw [hf_3]; exact hg
  refine lv_aload_n hx hb dAS_appendS_43 rfl (lv_at hl 0 rfl) ?_
  obtain rfl := Option.some.inj h
  exact dc_aretG a0 hx hb hr ⟨_, rfl⟩ hlocks hP hD hS dAS_appendS_44
set_option maxHeartbeats 4000000 in
set_option maxRecDepth 100000 in
theorem bAS_appendS_S17_24 {p : Program} {l : Launch} {e : Env} {s : State} {m : MethodId} {below : List Frame} {meth : Method} {c : Code} {A : Nat → Prop} {D : va_G} {K : Nat → ClassId} {h0 : Nat} {os : cf_O} {AR : Array Value} (C : (dc_C p s m AR meth c cAS_appendS 3 (Option.some (Jvm.ClassFile.FieldType.object "java/lang/AbstractStringBuilder")) yAS_appendS ∧ cf_E D K A s s.heap ∧ ∀ q, s.heap.size ≤ q → A q)) (v2 : Int32) (o0 : cf_O) (r : cf_O) (h : fAS_appendS_S17_24 v2 o0 = some r) {a0 : Nat → Nat} {H : Heap} {locs : List Loc} {ls : Array Slot} (hg : phSB os ≤ phSB o0) (hP : va_P D vwCl (wSB K h0 a0 o0) H) (hD : va_D A (wSB K h0 a0 o0)) (hS : va_S A s.heap H locs) (hl : lv_has ls 3 [(0, .ref h0), (1, .ref (K 117)), (2, .int v2)]) : W p l e ({ frames := 4, cells := (gC (phSB os) (phSB r)), slots := (gS (phSB os) (phSB r)), locals := 124 }) s m AR below meth c H locs (gC (phSB os) (phSB o0)) (gS (phSB os) (phSB o0)) (MQ below (va_Qr (fun (_ : Nat → Nat) => True) (fun (u : Nat → Nat) q t => cf_At D A (wSB K h0 u r) t ∧ q = h0) A) AR s (gC (phSB os) (phSB r)) (gS (phSB os) (phSB r)) A) (F0 m 24 ls []) := by
  obtain ⟨⟨hx, hb, hr, hts, hown, hlocks, hin, hml⟩, hE, hA⟩ := id C
  have hK := hE.k
  refine lv_aload_n hx hb dAS_appendS_24 rfl (lv_at hl 0 rfl) ?_
  refine lv_aload_n hx hb dAS_appendS_25 rfl (lv_at hl 0 rfl) ?_
  refine va_get (D := D) (ci := 13) (v := .int (o0.1 3)) (C := RSB) (T := TSB) (N := 4) hx hb hts inSB hown hK hP 0 rfl rfl 3 (by decide) (hts _ wv_457) (fun _ h9 => h9) rfl dAS_appendS_26 ?_
  refine lv_aload_n hx hb dAS_appendS_29 rfl (lv_at hl 1 rfl) ?_
  obtain ⟨q_1, hq_1, h⟩ := op_b h
  have hgr_2 : phSB q_1 ≤ phSB r := nAS_appendS_S17_33 _ _ _ h
  have hg2_3 : phSB o0 ≤ phSB q_1 := nAS_putStringAt_S17 _ _ _ hq_1
  refine dc_callv (va_runU (As := [.int (o0.1 3), .ref (K 117)]) (rest := []) ⟨hx, hb, hml, hown, hts⟩ (mAS_putStringAt_S17 l D K _ (o0.1 3) h0 a0 o0 _ hq_1) (cf_cwU (C := "java/lang/StringBuilder") 2 hts (cf_G1 wv_1614) rfl rfl rfl (hts _ wv_166) (hts _ wv_1611) (hts _ wv_2792) (va_Nw.use rfl (hE.n 31 rfl)) (hts _ wv_1613) (by decide +kernel) ⟨Nat.le_of_ble_eq_true rfl, Nat.le_of_ble_eq_true rfl⟩) (dc_preV hE hP hD hS hA rfl 0 rfl) rfl rfl hl.1 rfl (lv_room (Nat.le_of_ble_eq_true rfl)) dAS_appendS_30 ⟨gC_le (Nat.le_trans hg2_3 hgr_2), gS_le (Nat.le_trans hg2_3 hgr_2)⟩) hP hD hS hA (fun H locs hP hD hS => ?_)
  refine W.widen (k := (gC (phSB os) (phSB q_1))) (n := (gS (phSB os) (phSB q_1))) (gC_le hg2_3) (gS_le hg2_3) ?_
  have hg : phSB os ≤ phSB q_1 := Nat.le_trans hg hg2_3
  exact bAS_appendS_S17_33 C _ _ _ h hg hP hD hS (lv_sub hl [0, 2] rfl)
set_option maxHeartbeats 4000000 in
set_option maxRecDepth 100000 in
theorem bAS_appendS_S17_13 {p : Program} {l : Launch} {e : Env} {s : State} {m : MethodId} {below : List Frame} {meth : Method} {c : Code} {A : Nat → Prop} {D : va_G} {K : Nat → ClassId} {h0 : Nat} {os : cf_O} {AR : Array Value} (C : (dc_C p s m AR meth c cAS_appendS 3 (Option.some (Jvm.ClassFile.FieldType.object "java/lang/AbstractStringBuilder")) yAS_appendS ∧ cf_E D K A s s.heap ∧ ∀ q, s.heap.size ≤ q → A q)) (s0 : Int32) (o0 : cf_O) (r : cf_O) (h : fAS_appendS_S17_13 s0 o0 = some r) {a0 : Nat → Nat} {H : Heap} {locs : List Loc} {ls : Array Slot} (hg : phSB os ≤ phSB o0) (hP : va_P D vwCl (wSB K h0 a0 o0) H) (hD : va_D A (wSB K h0 a0 o0)) (hS : va_S A s.heap H locs) (hl : lv_has ls 3 [(0, .ref h0), (1, .ref (K 117))]) : W p l e ({ frames := 4, cells := (gC (phSB os) (phSB r)), slots := (gS (phSB os) (phSB r)), locals := 124 }) s m AR below meth c H locs (gC (phSB os) (phSB o0)) (gS (phSB os) (phSB o0)) (MQ below (va_Qr (fun (_ : Nat → Nat) => True) (fun (u : Nat → Nat) q t => cf_At D A (wSB K h0 u r) t ∧ q = h0) A) AR s (gC (phSB os) (phSB r)) (gS (phSB os) (phSB r)) A) (F0 m 13 ls [.int s0]) := by
  obtain ⟨⟨hx, hb, hr, hts, hown, hlocks, hin, hml⟩, hE, hA⟩ := id C
  have hK := hE.k
  refine lv_istore_n (lv' := [(2, .int s0), (0, .ref h0), (1, .ref (K 117))]) hx hb dAS_appendS_13 rfl hl (by decide) rfl (fun ls hl => ?_)
  refine lv_aload_n hx hb dAS_appendS_14 rfl (lv_at hl 1 rfl) ?_
  refine lv_aload_n hx hb dAS_appendS_15 rfl (lv_at hl 1 rfl) ?_
  refine va_get (D := D) (ci := 13) (v := .int (o0.1 3)) (C := RSB) (T := TSB) (N := 4) hx hb hts inSB hown hK hP 0 rfl rfl 3 (by decide) (hts _ wv_457) (fun _ h9 => h9) rfl dAS_appendS_16 ?_
  refine lv_iload_n hx hb dAS_appendS_19 rfl (lv_at hl 0 rfl) ?_
  refine lv_iadd hx hb dAS_appendS_20 ?_
  refine lv_topi (fun x_1 ex_1 => ?_)
  have h := op_ks ex_1 h
  obtain ⟨q_2, hq_2, h⟩ := op_b h
  have hgr_3 : phSB q_2 ≤ phSB r := nAS_appendS_S17_24 _ _ _ h
  have hg2_4 : phSB o0 ≤ phSB q_2 := nAS_ensureCapacityInternal _ _ _ hq_2
  refine cf_callv (wc := wSB K h0 a0 o0) (wr := []) (va_runU (As := [.int x_1]) (rest := []) ⟨hx, hb, hml, hown, hts⟩ (mAS_ensureCapacityInternal l D K _ x_1 h0 a0 o0 _ hq_2) (cf_cwU (C := "java/lang/StringBuilder") 1 hts (cf_G1 wv_1568) rfl rfl rfl (hts _ wv_166) (hts _ wv_1565) (hts _ wv_2790) (va_Nw.use rfl (hE.n 29 rfl)) (hts _ wv_1567) (by decide +kernel) ⟨Nat.le_of_ble_eq_true rfl, Nat.le_of_ble_eq_true rfl⟩) (cf_preV (wc := wSB K h0 a0 o0) hE hP hD hS hA rfl 0 rfl [0, 1] rfl (by decide +kernel)) rfl rfl hl.1 rfl (lv_room (Nat.le_of_ble_eq_true rfl)) dAS_appendS_21 ⟨Nat.le_trans (gC_add hg hg2_4) (gC_le hgr_3), Nat.le_trans (gS_add hg hg2_4) (gS_le hgr_3)⟩) hP hD hS hA [0, 1] [] rfl rfl (by decide +kernel) (by decide +kernel) (fun a0_6 H locs hw_5 hP hD hS => ?_)
  have hP : va_P D vwCl (wSB K h0 a0_6 q_2) H := hP.sub [0, 1] rfl
  have hD : va_D A (wSB K h0 a0_6 q_2) := hD.sub [0, 1] (by decide +kernel) rfl
  refine W.widen (k := (gC (phSB os) (phSB q_2))) (n := (gS (phSB os) (phSB q_2))) (gC_add hg hg2_4) (gS_add hg hg2_4) ?_
  have hg : phSB os ≤ phSB q_2 := Nat.le_trans hg hg2_4
  exact bAS_appendS_S17_24 C _ _ _ h hg hP hD hS (lv_sub hl [1, 2, 0] rfl)
set_option maxHeartbeats 4000000 in
set_option maxRecDepth 100000 in
theorem bAS_appendS_S17_0 {p : Program} {l : Launch} {e : Env} {s : State} {m : MethodId} {below : List Frame} {meth : Method} {c : Code} {A : Nat → Prop} {D : va_G} {K : Nat → ClassId} {h0 : Nat} {os : cf_O} {AR : Array Value} (C : (dc_C p s m AR meth c cAS_appendS 3 (Option.some (Jvm.ClassFile.FieldType.object "java/lang/AbstractStringBuilder")) yAS_appendS ∧ cf_E D K A s s.heap ∧ ∀ q, s.heap.size ≤ q → A q)) (o0 : cf_O) (r : cf_O) (h : fAS_appendS_S17_0 o0 = some r) {a0 : Nat → Nat} {H : Heap} {locs : List Loc} {ls : Array Slot} (hg : phSB os ≤ phSB o0) (hP : va_P D vwCl (wSB K h0 a0 o0) H) (hD : va_D A (wSB K h0 a0 o0)) (hS : va_S A s.heap H locs) (hl : lv_has ls 3 [(0, .ref h0), (1, .ref (K 117))]) : W p l e ({ frames := 4, cells := (gC (phSB os) (phSB r)), slots := (gS (phSB os) (phSB r)), locals := 124 }) s m AR below meth c H locs (gC (phSB os) (phSB o0)) (gS (phSB os) (phSB o0)) (MQ below (va_Qr (fun (_ : Nat → Nat) => True) (fun (u : Nat → Nat) q t => cf_At D A (wSB K h0 u r) t ∧ q = h0) A) AR s (gC (phSB os) (phSB r)) (gS (phSB os) (phSB r)) A) (F0 m 0 ls []) := by
  obtain ⟨⟨hx, hb, hr, hts, hown, hlocks, hin, hml⟩, hE, hA⟩ := id C
  have hK := hE.k
  refine lv_aload_n hx hb dAS_appendS_0 rfl (lv_at hl 1 rfl) ?_
  refine lv_ifnonnull (tgt := 9) hx hb dAS_appendS_1 (by decide) ?_
  refine lv_aload_n hx hb dAS_appendS_9 rfl (lv_at hl 1 rfl) ?_
  obtain ⟨q_1, hq_1, h⟩ := op_b h
  have hgr_2 : phSB o0 ≤ phSB r := nAS_appendS_S17_13 _ _ _ h
  refine cf_calli (wc := []) (wr := wSB K h0 a0 o0) (va_runV (As := []) (rest := []) ⟨hx, hb, hml, hown, hts⟩ (mJString_length__S17 l D K _ _ hq_1) (cwV 0 hts (cf_GV wv_1610 wv_757 wv_758 wv_168 wv_759) rfl rfl rfl (by decide +kernel) ⟨Nat.le_of_ble_eq_true rfl, Nat.le_of_ble_eq_true rfl⟩) (cf_preO (wc := []) (hE.s 17 rfl).2.1 hE hP hD hS hA [] rfl (by decide +kernel)) rfl rfl hl.1 rfl (lv_room (Nat.le_of_ble_eq_true rfl)) dAS_appendS_10 ⟨gC_le hgr_2, gS_le hgr_2⟩) hP hD hS hA [] [0, 1] rfl rfl (by decide +kernel) (by decide +kernel) (fun r_4 _ H locs hw_5 hP hD hS => ?_)
  subst r_4
  have hP : va_P D vwCl (wSB K h0 a0 o0) H := hP.sub [0, 1] rfl
  have hD : va_D A (wSB K h0 a0 o0) := hD.sub [0, 1] (by decide +kernel) rfl
  refine W.widen (k := (gC (phSB os) (phSB o0))) (n := (gS (phSB os) (phSB o0))) (Nat.le_refl _) (Nat.le_refl _) ?_
  exact bAS_appendS_S17_13 C _ _ _ h hg hP hD hS (lv_sub hl [0, 1] rfl)
set_option maxRecDepth 100000 in
theorem mAS_appendS_S17 (l : Launch) (D : va_G) (K : Nat → ClassId) (sz : Nat) (h0 : Nat) (a0 : Nat → Nat) (o0 : cf_O) (r : cf_O) (h : fAS_appendS_S17 o0 = some r) : Met l yAS_appendS (Cond.code yAS_appendS cAS_appendS 3 (Option.some (Jvm.ClassFile.FieldType.object "java/lang/AbstractStringBuilder")) :: cfB) ({ frames := 4, cells := (gC (phSB o0) (phSB r)), slots := (gS (phSB o0) (phSB r)), locals := 124 }) (va_Pc [.ref h0, .ref (K 117)] (cf_Pre D K sz (wSB K h0 a0 o0))) (va_Qr (fun (_ : Nat → Nat) => True) (fun (u : Nat → Nat) q t => cf_At D (va_A (wSB K h0 a0 o0) sz) (wSB K h0 u r) t ∧ q = h0) (va_A (wSB K h0 a0 o0) sz)) (gC (phSB o0) (phSB r)) (gS (phSB o0) (phSB r)) (va_A (wSB K h0 a0 o0) sz) := by
  refine cf_ofW (y := yAS_appendS) (As := [.ref h0, .ref (K 117)]) (WS := wSB K h0 a0 o0) (maxL := 3) (fun A => (va_Qr (fun (_ : Nat → Nat) => True) (fun (u : Nat → Nat) q t => cf_At D A (wSB K h0 u r) t ∧ q = h0) A)) (by decide) (Nat.le_of_ble_eq_true rfl) ?_
  intro p e s m below meth c A ls En hsz hA hP hD hE hS hl
  have C : (dc_C p s m (([.ref h0, .ref (K 117)] : List Value).toArray) meth c cAS_appendS 3 (Option.some (Jvm.ClassFile.FieldType.object "java/lang/AbstractStringBuilder")) yAS_appendS ∧ cf_E D K A s s.heap ∧ ∀ q, s.heap.size ≤ q → A q) := ⟨En, hE, hA⟩
  refine W.widen (k := gC (phSB o0) (phSB o0)) (n := gS (phSB o0) (phSB o0)) (Nat.zero_le _) (Nat.zero_le _) ?_
  exact bAS_appendS_S17_0 C o0 r h (Nat.le_refl _) hP hD hS hl
set_option maxRecDepth 100000 in
theorem nSB_appendS_S17_5 (o0 : cf_O) (r : cf_O) (h : fSB_appendS_S17_5 o0 = some r) : phSB o0 ≤ phSB r := by
  have hm : phSB o0 ≤ phSB o0 := Nat.le_refl _
  obtain rfl := Option.some.inj h
  exact hm
set_option maxRecDepth 100000 in
theorem nSB_appendS_S17_0 (o0 : cf_O) (r : cf_O) (h : fSB_appendS_S17_0 o0 = some r) : phSB o0 ≤ phSB r := by
  have hm : phSB o0 ≤ phSB o0 := Nat.le_refl _
  obtain ⟨q_1, hq_1, h⟩ := op_b h
  have hm : phSB o0 ≤ phSB q_1 := Nat.le_trans hm (nAS_appendS_S17 _ _ hq_1)
  exact Nat.le_trans hm (nSB_appendS_S17_5 _ _ h)
theorem nSB_appendS_S17 (o0 : cf_O) (r : cf_O) (h : fSB_appendS_S17 o0 = some r) : phSB o0 ≤ phSB r := nSB_appendS_S17_0  o0 r h
set_option maxHeartbeats 4000000 in
set_option maxRecDepth 100000 in
theorem bSB_appendS_S17_5 {p : Program} {l : Launch} {e : Env} {s : State} {m : MethodId} {below : List Frame} {meth : Method} {c : Code} {A : Nat → Prop} {D : va_G} {K : Nat → ClassId} {h0 : Nat} {os : cf_O} {AR : Array Value} (C : (dc_C p s m AR meth c cSB_appendS 2 (Option.some (Jvm.ClassFile.FieldType.object "java/lang/StringBuilder")) ySB_appendS ∧ cf_E D K A s s.heap ∧ ∀ q, s.heap.size ≤ q → A q)) (o0 : cf_O) (r : cf_O) (h : fSB_appendS_S17_5 o0 = some r) {a0 : Nat → Nat} {H : Heap} {locs : List Loc} {ls : Array Slot} (hg : phSB os ≤ phSB o0) (hP : va_P D vwCl (wSB K h0 a0 o0) H) (hD : va_D A (wSB K h0 a0 o0)) (hS : va_S A s.heap H locs) (hl : lv_has ls 2 [(0, .ref h0)]) : W p l e ({ frames := 5, cells := (gC (phSB os) (phSB r)), slots := (gS (phSB os) (phSB r)), locals := 146 }) s m AR below meth c H locs (gC (phSB os) (phSB o0)) (gS (phSB os) (phSB o0)) (MQ below (va_Qr (fun (_ : Nat → Nat) => True) (fun (u : Nat → Nat) q t => cf_At D A (wSB K h0 u r) t ∧ q = h0) A) AR s (gC (phSB os) (phSB r)) (gS (phSB os) (phSB r)) A) (F0 m 5 ls [.ref h0]) := by
  obtain ⟨⟨hx, hb, hr, hts, hown, hlocks, hin, hml⟩, hE, hA⟩ := id C
  have hK := hE.k
  refine lv_pop hx hb dSB_appendS_5 rfl ?_
  refine lv_aload_n hx hb dSB_appendS_6 rfl (lv_at hl 0 rfl) ?_
  obtain rfl := Option.some.inj h
  exact dc_aretG a0 hx hb hr ⟨_, rfl⟩ hlocks hP hD hS dSB_appendS_7
set_option maxHeartbeats 4000000 in
set_option maxRecDepth 100000 in
theorem bSB_appendS_S17_0 {p : Program} {l : Launch} {e : Env} {s : State} {m : MethodId} {below : List Frame} {meth : Method} {c : Code} {A : Nat → Prop} {D : va_G} {K : Nat → ClassId} {h0 : Nat} {os : cf_O} {AR : Array Value} (C : (dc_C p s m AR meth c cSB_appendS 2 (Option.some (Jvm.ClassFile.FieldType.object "java/lang/StringBuilder")) ySB_appendS ∧ cf_E D K A s s.heap ∧ ∀ q, s.heap.size ≤ q → A q)) (o0 : cf_O) (r : cf_O) (h : fSB_appendS_S17_0 o0 = some r) {a0 : Nat → Nat} {H : Heap} {locs : List Loc} {ls : Array Slot} (hg : phSB os ≤ phSB o0) (hP : va_P D vwCl (wSB K h0 a0 o0) H) (hD : va_D A (wSB K h0 a0 o0)) (hS : va_S A s.heap H locs) (hl : lv_has ls 2 [(0, .ref h0), (1, .ref (K 117))]) : W p l e ({ frames := 5, cells := (gC (phSB os) (phSB r)), slots := (gS (phSB os) (phSB r)), locals := 146 }) s m AR below meth c H locs (gC (phSB os) (phSB o0)) (gS (phSB os) (phSB o0)) (MQ below (va_Qr (fun (_ : Nat → Nat) => True) (fun (u : Nat → Nat) q t => cf_At D A (wSB K h0 u r) t ∧ q = h0) A) AR s (gC (phSB os) (phSB r)) (gS (phSB os) (phSB r)) A) (F0 m 0 ls []) := by
  obtain ⟨⟨hx, hb, hr, hts, hown, hlocks, hin, hml⟩, hE, hA⟩ := id C
  have hK := hE.k
  refine lv_aload_n hx hb dSB_appendS_0 rfl (lv_at hl 0 rfl) ?_
  refine lv_aload_n hx hb dSB_appendS_1 rfl (lv_at hl 1 rfl) ?_
  obtain ⟨q_1, hq_1, h⟩ := op_b h
  have hgr_2 : phSB q_1 ≤ phSB r := nSB_appendS_S17_5 _ _ h
  have hg2_3 : phSB o0 ≤ phSB q_1 := nAS_appendS_S17 _ _ hq_1
  refine cf_callR (wc := wSB K h0 a0 o0) (wr := []) (va_runSU (hK.1 13 _ rfl).2 (As := [.ref (K 117)]) (rest := []) ⟨hx, hb, hml, hown, hts⟩ (mAS_appendS_S17 l D K _ h0 a0 o0 _ hq_1) (cf_cwSU 1 hts (cf_G1 wv_1560) rfl rfl rfl (hts _ wv_1558) (hts _ wv_2788) (hts _ wv_466) (hts _ wv_1559) (hts _ wv_166) (by decide +kernel) ⟨Nat.le_of_ble_eq_true rfl, Nat.le_of_ble_eq_true rfl⟩) (cf_preV (wc := wSB K h0 a0 o0) hE hP hD hS hA rfl 0 rfl [0, 1] rfl (by decide +kernel)) rfl rfl hl.1 rfl (lv_room (Nat.le_of_ble_eq_true rfl)) dSB_appendS_2 ⟨Nat.le_trans (gC_add hg hg2_3) (gC_le hgr_2), Nat.le_trans (gS_add hg hg2_3) (gS_le hgr_2)⟩) hP hD hS hA [0, 1] [] rfl rfl (by decide +kernel) (by decide +kernel) (fun a0_5 H locs hw_4 hP hD hS => ?_)
  have hP : va_P D vwCl (wSB K h0 a0_5 q_1) H := hP.sub [0, 1] rfl
  have hD : va_D A (wSB K h0 a0_5 q_1) := hD.sub [0, 1] (by decide +kernel) rfl
  refine W.widen (k := (gC (phSB os) (phSB q_1))) (n := (gS (phSB os) (phSB q_1))) (gC_add hg hg2_3) (gS_add hg hg2_3) ?_
  have hg : phSB os ≤ phSB q_1 := Nat.le_trans hg hg2_3
  exact bSB_appendS_S17_5 C _ _ h hg hP hD hS (lv_sub hl [0] rfl)
set_option maxRecDepth 100000 in
theorem mSB_appendS_S17 (l : Launch) (D : va_G) (K : Nat → ClassId) (sz : Nat) (h0 : Nat) (a0 : Nat → Nat) (o0 : cf_O) (r : cf_O) (h : fSB_appendS_S17 o0 = some r) : Met l ySB_appendS (Cond.code ySB_appendS cSB_appendS 2 (Option.some (Jvm.ClassFile.FieldType.object "java/lang/StringBuilder")) :: cfB) ({ frames := 5, cells := (gC (phSB o0) (phSB r)), slots := (gS (phSB o0) (phSB r)), locals := 146 }) (va_Pc [.ref h0, .ref (K 117)] (cf_Pre D K sz (wSB K h0 a0 o0))) (va_Qr (fun (_ : Nat → Nat) => True) (fun (u : Nat → Nat) q t => cf_At D (va_A (wSB K h0 a0 o0) sz) (wSB K h0 u r) t ∧ q = h0) (va_A (wSB K h0 a0 o0) sz)) (gC (phSB o0) (phSB r)) (gS (phSB o0) (phSB r)) (va_A (wSB K h0 a0 o0) sz) := by
  refine cf_ofW (y := ySB_appendS) (As := [.ref h0, .ref (K 117)]) (WS := wSB K h0 a0 o0) (maxL := 2) (fun A => (va_Qr (fun (_ : Nat → Nat) => True) (fun (u : Nat → Nat) q t => cf_At D A (wSB K h0 u r) t ∧ q = h0) A)) (by decide) (Nat.le_of_ble_eq_true rfl) ?_
  intro p e s m below meth c A ls En hsz hA hP hD hE hS hl
  have C : (dc_C p s m (([.ref h0, .ref (K 117)] : List Value).toArray) meth c cSB_appendS 2 (Option.some (Jvm.ClassFile.FieldType.object "java/lang/StringBuilder")) ySB_appendS ∧ cf_E D K A s s.heap ∧ ∀ q, s.heap.size ≤ q → A q) := ⟨En, hE, hA⟩
  refine W.widen (k := gC (phSB o0) (phSB o0)) (n := gS (phSB o0) (phSB o0)) (Nat.zero_le _) (Nat.zero_le _) ?_
  exact bSB_appendS_S17_0 C o0 r h (Nat.le_refl _) hP hD hS hl
def NIMp_writeTo (n : Nat) : Prop := (∀ (v5 : Int32) (o0 : cf_O) (o1 : cf_O) (o2 : cf_O) (o3 : cf_O) (o4 : cf_O) (o5 : cf_O) (r : cf_O × cf_O), gMp_writeTo n 0 v5 0 0 0 o0 o1 o2 o3 o4 o5 = some r → phSB o5 ≤ phSB r.2) ∧ (∀ (v5 : Int32) (v6 : Int64) (v8 : Int32) (v9 : Int32) (o0 : cf_O) (o1 : cf_O) (o2 : cf_O) (o3 : cf_O) (o4 : cf_O) (o5 : cf_O) (r : cf_O × cf_O), gMp_writeTo n 1 v5 v6 v8 v9 o0 o1 o2 o3 o4 o5 = some r → phSB o5 ≤ phSB r.2) ∧ (∀ (v5 : Int32) (o0 : cf_O) (o1 : cf_O) (o2 : cf_O) (o3 : cf_O) (o4 : cf_O) (o5 : cf_O) (r : cf_O × cf_O), gMp_writeTo n 2 v5 0 0 0 o0 o1 o2 o3 o4 o5 = some r → phSB o5 ≤ phSB r.2)
set_option maxRecDepth 100000 in
theorem nMp_writeTo_159 {n : Nat} (ih : NIMp_writeTo n) (o0 : cf_O) (o1 : cf_O) (o2 : cf_O) (o3 : cf_O) (o4 : cf_O) (o5 : cf_O) (r : cf_O × cf_O) (h : fMp_writeTo_159 (gMp_writeTo n) o0 o1 o2 o3 o4 o5 = some r) : phSB o5 ≤ phSB r.2 := by
  have hm : phSB o5 ≤ phSB o5 := Nat.le_refl _
  obtain rfl := Option.some.inj h
  exact hm
set_option maxRecDepth 100000 in
theorem nMp_writeTo_149 {n : Nat} (ih : NIMp_writeTo n) (v5 : Int32) (o0 : cf_O) (o1 : cf_O) (o2 : cf_O) (o3 : cf_O) (o4 : cf_O) (o5 : cf_O) (r : cf_O × cf_O) (h : fMp_writeTo_149 (gMp_writeTo n) v5 o0 o1 o2 o3 o4 o5 = some r) : phSB o5 ≤ phSB r.2 := by
  have hm : phSB o5 ≤ phSB o5 := Nat.le_refl _
  obtain ⟨x_1, ex_1, h⟩ := op_kx h
  exact Nat.le_trans hm ((ih.2.2) _ _ _ _ _ _ _ _ h)
set_option maxRecDepth 100000 in
theorem nMp_writeTo_125 {n : Nat} (ih : NIMp_writeTo n) (v5 : Int32) (o0 : cf_O) (o1 : cf_O) (o2 : cf_O) (o3 : cf_O) (o4 : cf_O) (o5 : cf_O) (r : cf_O × cf_O) (h : fMp_writeTo_125 (gMp_writeTo n) v5 o0 o1 o2 o3 o4 o5 = some r) : phSB o5 ≤ phSB r.2 := by
  have hm : phSB o5 ≤ phSB o5 := Nat.le_refl _
  rcases (Classical.em ((o3.1 1) ≤ v5)) with c_1 | c_1
  · have h := op_t c_1 h
    obtain ⟨q_2, hq_2, h⟩ := op_b h
    have hm : phSB o5 ≤ phSB q_2.2 := Nat.le_trans hm (nSc_close _ _ _ hq_2)
    exact Nat.le_trans hm (nMp_writeTo_159 ih _ _ _ _ _ _ _ h)
  · have h := op_f c_1 h
    obtain ⟨hi_7, h⟩ := op_n h
    obtain ⟨x_8, ex_8, h⟩ := op_kx h
    obtain ⟨q_9, hq_9, h⟩ := op_b h
    have hm : phSB o5 ≤ phSB q_9 := Nat.le_trans hm (nSc_writeResult _ _ _ _ _ _ _ hq_9)
    exact Nat.le_trans hm (nMp_writeTo_149 ih _ _ _ _ _ _ _ _ h)
set_option maxRecDepth 100000 in
theorem nMp_writeTo_115 {n : Nat} (ih : NIMp_writeTo n) (v5 : Int32) (o0 : cf_O) (o1 : cf_O) (o2 : cf_O) (o3 : cf_O) (o4 : cf_O) (o5 : cf_O) (r : cf_O × cf_O) (h : fMp_writeTo_115 (gMp_writeTo n) v5 o0 o1 o2 o3 o4 o5 = some r) : phSB o5 ≤ phSB r.2 := by
  have hm : phSB o5 ≤ phSB o5 := Nat.le_refl _
  obtain ⟨x_1, ex_1, h⟩ := op_kx h
  exact Nat.le_trans hm ((ih.1) _ _ _ _ _ _ _ _ h)
set_option maxRecDepth 100000 in
theorem nMp_writeTo_106 {n : Nat} (ih : NIMp_writeTo n) (v5 : Int32) (o0 : cf_O) (o1 : cf_O) (o2 : cf_O) (o3 : cf_O) (o4 : cf_O) (o5 : cf_O) (r : cf_O × cf_O) (h : fMp_writeTo_106 (gMp_writeTo n) v5 o0 o1 o2 o3 o4 o5 = some r) : phSB o5 ≤ phSB r.2 := by
  have hm : phSB o5 ≤ phSB o5 := Nat.le_refl _
  obtain ⟨q_1, hq_1, h⟩ := op_b h
  have hm : phSB o5 ≤ phSB q_1 := Nat.le_trans hm (nSB_appendC _ _ _ hq_1)
  exact Nat.le_trans hm (nMp_writeTo_115 ih _ _ _ _ _ _ _ _ h)
set_option maxRecDepth 100000 in
theorem nMp_writeTo_88 {n : Nat} (ih : NIMp_writeTo n) (v5 : Int32) (v6 : Int64) (v8 : Int32) (v9 : Int32) (o0 : cf_O) (o1 : cf_O) (o2 : cf_O) (o3 : cf_O) (o4 : cf_O) (o5 : cf_O) (r : cf_O × cf_O) (h : fMp_writeTo_88 (gMp_writeTo n) v5 v6 v8 v9 o0 o1 o2 o3 o4 o5 = some r) : phSB o5 ≤ phSB r.2 := by
  have hm : phSB o5 ≤ phSB o5 := Nat.le_refl _
  obtain ⟨x_1, ex_1, h⟩ := op_kx h
  exact Nat.le_trans hm ((ih.2.1) _ _ _ _ _ _ _ _ _ _ _ h)
set_option maxRecDepth 100000 in
theorem nMp_writeTo_85 {n : Nat} (ih : NIMp_writeTo n) (v5 : Int32) (v6 : Int64) (v8 : Int32) (v9 : Int32) (s2 : Int32) (o0 : cf_O) (o1 : cf_O) (o2 : cf_O) (o3 : cf_O) (o4 : cf_O) (o5 : cf_O) (r : cf_O × cf_O) (h : fMp_writeTo_85 (gMp_writeTo n) v5 v6 v8 v9 s2 o0 o1 o2 o3 o4 o5 = some r) : phSB o5 ≤ phSB r.2 := by
  have hm : phSB o5 ≤ phSB o5 := Nat.le_refl _
  obtain ⟨q_1, hq_1, h⟩ := op_b h
  have hm : phSB o5 ≤ phSB q_1 := Nat.le_trans hm (nSc_writeLiteral _ _ _ _ _ hq_1)
  exact Nat.le_trans hm (nMp_writeTo_88 ih _ _ _ _ _ _ _ _ _ _ _ h)
set_option maxRecDepth 100000 in
theorem nMp_writeTo_63 {n : Nat} (ih : NIMp_writeTo n) (v5 : Int32) (v6 : Int64) (v8 : Int32) (v9 : Int32) (o0 : cf_O) (o1 : cf_O) (o2 : cf_O) (o3 : cf_O) (o4 : cf_O) (o5 : cf_O) (r : cf_O × cf_O) (h : fMp_writeTo_63 (gMp_writeTo n) v5 v6 v8 v9 o0 o1 o2 o3 o4 o5 = some r) : phSB o5 ≤ phSB r.2 := by
  have hm : phSB o5 ≤ phSB o5 := Nat.le_refl _
  obtain ⟨hi_1, h⟩ := op_n h
  obtain ⟨x_2, ex_2, h⟩ := op_kx h
  rcases (Classical.em (x_2 ≤ v9)) with c_3 | c_3
  · have h := op_t c_3 h
    obtain ⟨hi_4, h⟩ := op_n h
    obtain ⟨x_5, ex_5, h⟩ := op_kx h
    obtain ⟨q_6, hq_6, h⟩ := op_b h
    have hm : phSB o5 ≤ phSB q_6 := Nat.le_trans hm (nSc_writeLiteral _ _ _ _ _ hq_6)
    exact Nat.le_trans hm (nMp_writeTo_106 ih _ _ _ _ _ _ _ _ h)
  · have h := op_f c_3 h
    obtain ⟨q_11, hq_11, h⟩ := op_b h
    exact Nat.le_trans hm (nMp_writeTo_85 ih _ _ _ _ _ _ _ _ _ _ _ _ h)
set_option maxRecDepth 100000 in
theorem nMp_writeTo_60 {n : Nat} (ih : NIMp_writeTo n) (v5 : Int32) (v6 : Int64) (v8 : Int32) (o0 : cf_O) (o1 : cf_O) (o2 : cf_O) (o3 : cf_O) (o4 : cf_O) (o5 : cf_O) (r : cf_O × cf_O) (h : fMp_writeTo_60 (gMp_writeTo n) v5 v6 v8 o0 o1 o2 o3 o4 o5 = some r) : phSB o5 ≤ phSB r.2 := by
  have hm : phSB o5 ≤ phSB o5 := Nat.le_refl _
  exact Nat.le_trans hm ((ih.2.1) _ _ _ _ _ _ _ _ _ _ _ h)
set_option maxRecDepth 100000 in
theorem nMp_writeTo_47 {n : Nat} (ih : NIMp_writeTo n) (v5 : Int32) (v6 : Int64) (v8 : Int32) (o0 : cf_O) (o1 : cf_O) (o2 : cf_O) (o3 : cf_O) (o4 : cf_O) (o5 : cf_O) (r : cf_O × cf_O) (h : fMp_writeTo_47 (gMp_writeTo n) v5 v6 v8 o0 o1 o2 o3 o4 o5 = some r) : phSB o5 ≤ phSB r.2 := by
  have hm : phSB o5 ≤ phSB o5 := Nat.le_refl _
  obtain ⟨hi_1, h⟩ := op_n h
  obtain ⟨x_2, ex_2, h⟩ := op_kx h
  obtain ⟨q_3, hq_3, h⟩ := op_b h
  have hm : phSB o5 ≤ phSB q_3 := Nat.le_trans hm (nSc_writeName _ _ _ _ hq_3)
  exact Nat.le_trans hm (nMp_writeTo_60 ih _ _ _ _ _ _ _ _ _ _ h)
set_option maxRecDepth 100000 in
theorem nMp_writeTo_36 {n : Nat} (ih : NIMp_writeTo n) (v5 : Int32) (v6 : Int64) (s0 : Int32) (o0 : cf_O) (o1 : cf_O) (o2 : cf_O) (o3 : cf_O) (o4 : cf_O) (o5 : cf_O) (r : cf_O × cf_O) (h : fMp_writeTo_36 (gMp_writeTo n) v5 v6 s0 o0 o1 o2 o3 o4 o5 = some r) : phSB o5 ≤ phSB r.2 := by
  have hm : phSB o5 ≤ phSB o5 := Nat.le_refl _
  obtain ⟨q_1, hq_1, h⟩ := op_b h
  have hm : phSB o5 ≤ phSB q_1 := Nat.le_trans hm (nSB_appendS_S17 _ _ hq_1)
  exact Nat.le_trans hm (nMp_writeTo_47 ih _ _ _ _ _ _ _ _ _ _ h)
set_option maxRecDepth 100000 in
theorem nMp_writeTo_8 {n : Nat} (ih : NIMp_writeTo n) (v5 : Int32) (o0 : cf_O) (o1 : cf_O) (o2 : cf_O) (o3 : cf_O) (o4 : cf_O) (o5 : cf_O) (r : cf_O × cf_O) (h : fMp_writeTo_8 (gMp_writeTo n) v5 o0 o1 o2 o3 o4 o5 = some r) : phSB o5 ≤ phSB r.2 := by
  have hm : phSB o5 ≤ phSB o5 := Nat.le_refl _
  rcases (Classical.em ((o0.1 0) ≤ v5)) with c_1 | c_1
  · have h := op_t c_1 h
    exact Nat.le_trans hm ((ih.2.2) _ _ _ _ _ _ _ _ h)
  · have h := op_f c_1 h
    obtain ⟨hi_2, h⟩ := op_n h
    obtain ⟨x_3, ex_3, h⟩ := op_kx h
    obtain ⟨hi_4, h⟩ := op_n h
    obtain ⟨x_5, ex_5, h⟩ := op_kx h
    obtain ⟨q_6, hq_6, h⟩ := op_b h
    exact Nat.le_trans hm (nMp_writeTo_36 ih _ _ _ _ _ _ _ _ _ _ h)
set_option maxRecDepth 100000 in
theorem nMp_writeTo_5 {n : Nat} (ih : NIMp_writeTo n) (o0 : cf_O) (o1 : cf_O) (o2 : cf_O) (o3 : cf_O) (o4 : cf_O) (o5 : cf_O) (r : cf_O × cf_O) (h : fMp_writeTo_5 (gMp_writeTo n) o0 o1 o2 o3 o4 o5 = some r) : phSB o5 ≤ phSB r.2 := by
  have hm : phSB o5 ≤ phSB o5 := Nat.le_refl _
  exact Nat.le_trans hm ((ih.1) _ _ _ _ _ _ _ _ h)
set_option maxRecDepth 100000 in
theorem nMp_writeTo_0 {n : Nat} (ih : NIMp_writeTo n) (o0 : cf_O) (o1 : cf_O) (o2 : cf_O) (o3 : cf_O) (o4 : cf_O) (o5 : cf_O) (r : cf_O × cf_O) (h : fMp_writeTo_0 (gMp_writeTo n) o0 o1 o2 o3 o4 o5 = some r) : phSB o5 ≤ phSB r.2 := by
  have hm : phSB o5 ≤ phSB o5 := Nat.le_refl _
  obtain ⟨q_1, hq_1, h⟩ := op_b h
  have hm : phSB o5 ≤ phSB q_1 := Nat.le_trans hm (nSc_writeHead _ _ _ _ hq_1)
  exact Nat.le_trans hm (nMp_writeTo_5 ih _ _ _ _ _ _ _ h)
theorem niMp_writeTo : ∀ n, NIMp_writeTo n := by
  intro n
  induction n with
  | zero => exact ⟨(fun _ _ _ _ _ _ _ r h => by cases (show none = some r from h)), (fun _ _ _ _ _ _ _ _ _ _ r h => by cases (show none = some r from h)), (fun _ _ _ _ _ _ _ r h => by cases (show none = some r from h))⟩
  | succ n ih => exact ⟨fun x0 x1 x2 x3 x4 x5 x6 r h => nMp_writeTo_8 ih x0 x1 x2 x3 x4 x5 x6 r h, fun x0 x1 x2 x3 x4 x5 x6 x7 x8 x9 r h => nMp_writeTo_63 ih x0 x1 x2 x3 x4 x5 x6 x7 x8 x9 r h, fun x0 x1 x2 x3 x4 x5 x6 r h => nMp_writeTo_125 ih x0 x1 x2 x3 x4 x5 x6 r h⟩
theorem nMp_writeTo (o0 : cf_O) (o1 : cf_O) (o2 : cf_O) (o3 : cf_O) (o4 : cf_O) (o5 : cf_O) (r : cf_O × cf_O) (h : fMp_writeTo o0 o1 o2 o3 o4 o5 = some r) : phSB o5 ≤ phSB r.2 := nMp_writeTo_0 (niMp_writeTo cfFU) o0 o1 o2 o3 o4 o5 r h
def IhMp_writeTo (p : Program) (l : Launch) (e : Env) (s : State) (m : MethodId) (below : List Frame) (meth : Method) (c : Code) (A : Nat → Prop) (D : va_G) (K : Nat → ClassId) (h0 : Nat) (a0 : Nat → Nat) (h1 : Nat) (h2 : Nat) (a2 : Nat → Nat) (h3 : Nat) (a3 : Nat → Nat) (h4 : Nat) (a4 : Nat → Nat) (h5 : Nat) (os : cf_O) (AR : Array Value) (n : Nat) : Prop := (∀ (v5 : Int32) (o0 : cf_O) (o1 : cf_O) (o2 : cf_O) (o3 : cf_O) (o4 : cf_O) (o5 : cf_O) (r : cf_O × cf_O), gMp_writeTo n 0 v5 0 0 0 o0 o1 o2 o3 o4 o5 = some r → ∀ {a5 : Nat → Nat} {H : Heap} {locs : List Loc} {ls : Array Slot}, (phSB os ≤ phSB o5) → (va_P D vwCl (wMp K h0 a0 o0 ++ wSc K h1 (fun _ => h5) o1 ++ wNl K h2 a2 o2 ++ wGr K h3 a3 o3 ++ wLi K h4 a4 o4 ++ wSB K h5 a5 o5) H) → (va_D A (wMp K h0 a0 o0 ++ wSc K h1 (fun _ => h5) o1 ++ wNl K h2 a2 o2 ++ wGr K h3 a3 o3 ++ wLi K h4 a4 o4 ++ wSB K h5 a5 o5)) → va_S A s.heap H locs → lv_has ls 10 [(0, .ref h0), (1, .ref h1), (2, .ref h2), (3, .ref h3), (4, .ref h4), (5, .int v5)] → W p l e ({ frames := 9, cells := (gC (phSB os) (phSB r.2)), slots := (gS (phSB os) (phSB r.2)), locals := 238 }) s m AR below meth c H locs (gC (phSB os) (phSB o5)) (gS (phSB os) (phSB o5)) (MQ below (va_Qv (fun (_ : Nat → Nat) => True) (fun (u : Nat → Nat) t => cf_At D A (wMp K h0 a0 o0 ++ wSc K h1 (fun _ => h5) r.1 ++ wNl K h2 a2 o2 ++ wGr K h3 a3 o3 ++ wLi K h4 a4 o4 ++ wSB K h5 u r.2) t) A) AR s (gC (phSB os) (phSB r.2)) (gS (phSB os) (phSB r.2)) A) (F0 m 8 ls [])) ∧ (∀ (v5 : Int32) (v6 : Int64) (v8 : Int32) (v9 : Int32) (o0 : cf_O) (o1 : cf_O) (o2 : cf_O) (o3 : cf_O) (o4 : cf_O) (o5 : cf_O) (r : cf_O × cf_O), gMp_writeTo n 1 v5 v6 v8 v9 o0 o1 o2 o3 o4 o5 = some r → ∀ {a5 : Nat → Nat} {H : Heap} {locs : List Loc} {ls : Array Slot}, (phSB os ≤ phSB o5) → (va_P D vwCl (wMp K h0 a0 o0 ++ wSc K h1 (fun _ => h5) o1 ++ wNl K h2 a2 o2 ++ wGr K h3 a3 o3 ++ wLi K h4 a4 o4 ++ wSB K h5 a5 o5) H) → (va_D A (wMp K h0 a0 o0 ++ wSc K h1 (fun _ => h5) o1 ++ wNl K h2 a2 o2 ++ wGr K h3 a3 o3 ++ wLi K h4 a4 o4 ++ wSB K h5 a5 o5)) → va_S A s.heap H locs → lv_has ls 10 [(0, .ref h0), (1, .ref h1), (2, .ref h2), (3, .ref h3), (4, .ref h4), (5, .int v5), (6, .long v6), (8, .int v8), (9, .int v9)] → W p l e ({ frames := 9, cells := (gC (phSB os) (phSB r.2)), slots := (gS (phSB os) (phSB r.2)), locals := 238 }) s m AR below meth c H locs (gC (phSB os) (phSB o5)) (gS (phSB os) (phSB o5)) (MQ below (va_Qv (fun (_ : Nat → Nat) => True) (fun (u : Nat → Nat) t => cf_At D A (wMp K h0 a0 o0 ++ wSc K h1 (fun _ => h5) r.1 ++ wNl K h2 a2 o2 ++ wGr K h3 a3 o3 ++ wLi K h4 a4 o4 ++ wSB K h5 u r.2) t) A) AR s (gC (phSB os) (phSB r.2)) (gS (phSB os) (phSB r.2)) A) (F0 m 63 ls [])) ∧ (∀ (v5 : Int32) (o0 : cf_O) (o1 : cf_O) (o2 : cf_O) (o3 : cf_O) (o4 : cf_O) (o5 : cf_O) (r : cf_O × cf_O), gMp_writeTo n 2 v5 0 0 0 o0 o1 o2 o3 o4 o5 = some r → ∀ {a5 : Nat → Nat} {H : Heap} {locs : List Loc} {ls : Array Slot}, (phSB os ≤ phSB o5) → (va_P D vwCl (wMp K h0 a0 o0 ++ wSc K h1 (fun _ => h5) o1 ++ wNl K h2 a2 o2 ++ wGr K h3 a3 o3 ++ wLi K h4 a4 o4 ++ wSB K h5 a5 o5) H) → (va_D A (wMp K h0 a0 o0 ++ wSc K h1 (fun _ => h5) o1 ++ wNl K h2 a2 o2 ++ wGr K h3 a3 o3 ++ wLi K h4 a4 o4 ++ wSB K h5 a5 o5)) → va_S A s.heap H locs → lv_has ls 10 [(1, .ref h1), (2, .ref h2), (3, .ref h3), (5, .int v5)] → W p l e ({ frames := 9, cells := (gC (phSB os) (phSB r.2)), slots := (gS (phSB os) (phSB r.2)), locals := 238 }) s m AR below meth c H locs (gC (phSB os) (phSB o5)) (gS (phSB os) (phSB o5)) (MQ below (va_Qv (fun (_ : Nat → Nat) => True) (fun (u : Nat → Nat) t => cf_At D A (wMp K h0 a0 o0 ++ wSc K h1 (fun _ => h5) r.1 ++ wNl K h2 a2 o2 ++ wGr K h3 a3 o3 ++ wLi K h4 a4 o4 ++ wSB K h5 u r.2) t) A) AR s (gC (phSB os) (phSB r.2)) (gS (phSB os) (phSB r.2)) A) (F0 m 125 ls []))
set_option maxHeartbeats 4000000 in
set_option maxRecDepth 100000 in
theorem bMp_writeTo_159 {p : Program} {l : Launch} {e : Env} {s : State} {m : MethodId} {below : List Frame} {meth : Method} {c : Code} {A : Nat → Prop} {D : va_G} {K : Nat → ClassId} {h0 : Nat} {a0 : Nat → Nat} {h1 : Nat} {h2 : Nat} {a2 : Nat → Nat} {h3 : Nat} {a3 : Nat → Nat} {h4 : Nat} {a4 : Nat → Nat} {h5 : Nat} {os : cf_O} {AR : Array Value} (C : (dc_C p s m AR meth c cMp_writeTo 10 (Option.none : Option Jvm.ClassFile.FieldType) yMp_writeTo ∧ cf_E D K A s s.heap ∧ ∀ q, s.heap.size ≤ q → A q)) {n : Nat} (ih : IhMp_writeTo p l e s m below meth c A D K h0 a0 h1 h2 a2 h3 a3 h4 a4 h5 os AR n) (o0 : cf_O) (o1 : cf_O) (o2 : cf_O) (o3 : cf_O) (o4 : cf_O) (o5 : cf_O) (r : cf_O × cf_O) (h : fMp_writeTo_159 (gMp_writeTo n) o0 o1 o2 o3 o4 o5 = some r) {a5 : Nat → Nat} {H : Heap} {locs : List Loc} {ls : Array Slot} (hg : phSB os ≤ phSB o5) (hP : va_P D vwCl (wMp K h0 a0 o0 ++ wSc K h1 (fun _ => h5) o1 ++ wNl K h2 a2 o2 ++ wGr K h3 a3 o3 ++ wLi K h4 a4 o4 ++ wSB K h5 a5 o5) H) (hD : va_D A (wMp K h0 a0 o0 ++ wSc K h1 (fun _ => h5) o1 ++ wNl K h2 a2 o2 ++ wGr K h3 a3 o3 ++ wLi K h4 a4 o4 ++ wSB K h5 a5 o5)) (hS : va_S A s.heap H locs) (hl : lv_has ls 10 []) : W p l e ({ frames := 9, cells := (gC (phSB os) (phSB r.2)), slots := (gS (phSB os) (phSB r.2)), locals := 238 }) s m AR below meth c H locs (gC (phSB os) (phSB o5)) (gS (phSB os) (phSB o5)) (MQ below (va_Qv (fun (_ : Nat → Nat) => True) (fun (u : Nat → Nat) t => cf_At D A (wMp K h0 a0 o0 ++ wSc K h1 (fun _ => h5) r.1 ++ wNl K h2 a2 o2 ++ wGr K h3 a3 o3 ++ wLi K h4 a4 o4 ++ wSB K h5 u r.2) t) A) AR s (gC (phSB os) (phSB r.2)) (gS (phSB os) (phSB r.2)) A) (F0 m 159 ls []) := by
  obtain ⟨⟨hx, hb, hr, hts, hown, hlocks, hin, hml⟩, hE, hA⟩ := id C
  have hK := hE.k
  obtain rfl := Option.some.inj h
  exact dc_vretG a5 hx hb hr hlocks hP hD hS dMp_writeTo_159
set_option maxHeartbeats 4000000 in
set_option maxRecDepth 100000 in
theorem bMp_writeTo_149 {p : Program} {l : Launch} {e : Env} {s : State} {m : MethodId} {below : List Frame} {meth : Method} {c : Code} {A : Nat → Prop} {D : va_G} {K : Nat → ClassId} {h0 : Nat} {a0 : Nat → Nat} {h1 : Nat} {h2 : Nat} {a2 : Nat → Nat} {h3 : Nat} {a3 : Nat → Nat} {h4 : Nat} {a4 : Nat → Nat} {h5 : Nat} {os : cf_O} {AR : Array Value} (C : (dc_C p s m AR meth c cMp_writeTo 10 (Option.none : Option Jvm.ClassFile.FieldType) yMp_writeTo ∧ cf_E D K A s s.heap ∧ ∀ q, s.heap.size ≤ q → A q)) {n : Nat} (ih : IhMp_writeTo p l e s m below meth c A D K h0 a0 h1 h2 a2 h3 a3 h4 a4 h5 os AR n) (v5 : Int32) (o0 : cf_O) (o1 : cf_O) (o2 : cf_O) (o3 : cf_O) (o4 : cf_O) (o5 : cf_O) (r : cf_O × cf_O) (h : fMp_writeTo_149 (gMp_writeTo n) v5 o0 o1 o2 o3 o4 o5 = some r) {a5 : Nat → Nat} {H : Heap} {locs : List Loc} {ls : Array Slot} (hg : phSB os ≤ phSB o5) (hP : va_P D vwCl (wMp K h0 a0 o0 ++ wSc K h1 (fun _ => h5) o1 ++ wNl K h2 a2 o2 ++ wGr K h3 a3 o3 ++ wLi K h4 a4 o4 ++ wSB K h5 a5 o5) H) (hD : va_D A (wMp K h0 a0 o0 ++ wSc K h1 (fun _ => h5) o1 ++ wNl K h2 a2 o2 ++ wGr K h3 a3 o3 ++ wLi K h4 a4 o4 ++ wSB K h5 a5 o5)) (hS : va_S A s.heap H locs) (hl : lv_has ls 10 [(1, .ref h1), (2, .ref h2), (3, .ref h3), (5, .int v5)]) : W p l e ({ frames := 9, cells := (gC (phSB os) (phSB r.2)), slots := (gS (phSB os) (phSB r.2)), locals := 238 }) s m AR below meth c H locs (gC (phSB os) (phSB o5)) (gS (phSB os) (phSB o5)) (MQ below (va_Qv (fun (_ : Nat → Nat) => True) (fun (u : Nat → Nat) t => cf_At D A (wMp K h0 a0 o0 ++ wSc K h1 (fun _ => h5) r.1 ++ wNl K h2 a2 o2 ++ wGr K h3 a3 o3 ++ wLi K h4 a4 o4 ++ wSB K h5 u r.2) t) A) AR s (gC (phSB os) (phSB r.2)) (gS (phSB os) (phSB r.2)) A) (F0 m 149 ls []) := by
  obtain ⟨⟨hx, hb, hr, hts, hown, hlocks, hin, hml⟩, hE, hA⟩ := id C
  have hK := hE.k
  obtain ⟨x_1, ex_1⟩ : ∃ y : Int32, y = v5 + 1 := ⟨_, rfl⟩
  refine lv_iinc (v := x_1) (lv' := [(5, .int x_1), (1, .ref h1), (2, .ref h2), (3, .ref h3)]) hx hb dMp_writeTo_149 hl (k := 3) rfl (by rw [ex_1]; rfl) (by decide) rfl (fun ls hl => ?_)
  have h := op_ks ex_1 h
  refine lv_goto (tgt := 125) hx hb dMp_writeTo_152 (by decide) ?_
  exact (ih.2.2) _ _ _ _ _ _ _ _ h hg hP hD hS (lv_sub hl [1, 2, 3, 0] rfl)
set_option maxHeartbeats 4000000 in
set_option maxRecDepth 100000 in
theorem bMp_writeTo_125 {p : Program} {l : Launch} {e : Env} {s : State} {m : MethodId} {below : List Frame} {meth : Method} {c : Code} {A : Nat → Prop} {D : va_G} {K : Nat → ClassId} {h0 : Nat} {a0 : Nat → Nat} {h1 : Nat} {h2 : Nat} {a2 : Nat → Nat} {h3 : Nat} {a3 : Nat → Nat} {h4 : Nat} {a4 : Nat → Nat} {h5 : Nat} {os : cf_O} {AR : Array Value} (C : (dc_C p s m AR meth c cMp_writeTo 10 (Option.none : Option Jvm.ClassFile.FieldType) yMp_writeTo ∧ cf_E D K A s s.heap ∧ ∀ q, s.heap.size ≤ q → A q)) {n : Nat} (ih : IhMp_writeTo p l e s m below meth c A D K h0 a0 h1 h2 a2 h3 a3 h4 a4 h5 os AR n) (v5 : Int32) (o0 : cf_O) (o1 : cf_O) (o2 : cf_O) (o3 : cf_O) (o4 : cf_O) (o5 : cf_O) (r : cf_O × cf_O) (h : fMp_writeTo_125 (gMp_writeTo n) v5 o0 o1 o2 o3 o4 o5 = some r) {a5 : Nat → Nat} {H : Heap} {locs : List Loc} {ls : Array Slot} (hg : phSB os ≤ phSB o5) (hP : va_P D vwCl (wMp K h0 a0 o0 ++ wSc K h1 (fun _ => h5) o1 ++ wNl K h2 a2 o2 ++ wGr K h3 a3 o3 ++ wLi K h4 a4 o4 ++ wSB K h5 a5 o5) H) (hD : va_D A (wMp K h0 a0 o0 ++ wSc K h1 (fun _ => h5) o1 ++ wNl K h2 a2 o2 ++ wGr K h3 a3 o3 ++ wLi K h4 a4 o4 ++ wSB K h5 a5 o5)) (hS : va_S A s.heap H locs) (hl : lv_has ls 10 [(1, .ref h1), (2, .ref h2), (3, .ref h3), (5, .int v5)]) : W p l e ({ frames := 9, cells := (gC (phSB os) (phSB r.2)), slots := (gS (phSB os) (phSB r.2)), locals := 238 }) s m AR below meth c H locs (gC (phSB os) (phSB o5)) (gS (phSB os) (phSB o5)) (MQ below (va_Qv (fun (_ : Nat → Nat) => True) (fun (u : Nat → Nat) t => cf_At D A (wMp K h0 a0 o0 ++ wSc K h1 (fun _ => h5) r.1 ++ wNl K h2 a2 o2 ++ wGr K h3 a3 o3 ++ wLi K h4 a4 o4 ++ wSB K h5 u r.2) t) A) AR s (gC (phSB os) (phSB r.2)) (gS (phSB os) (phSB r.2)) A) (F0 m 125 ls []) := by
  obtain ⟨⟨hx, hb, hr, hts, hown, hlocks, hin, hml⟩, hE, hA⟩ := id C
  have hK := hE.k
  refine lv_iload hx hb dMp_writeTo_125 (lv_at hl 3 rfl) ?_
  refine lv_aload_n hx hb dMp_writeTo_127 rfl (lv_at hl 2 rfl) ?_
  refine va_get (D := D) (ci := 3) (v := .int (o3.1 1)) (C := RGr) (T := TGr) (N := 10) hx hb hts inGr hown hK hP 19 rfl rfl 1 (by decide) (hts _ wv_554) (fun _ h9 => h9) rfl dMp_writeTo_128 ?_
  refine lv_icmp_ge (tgt := 155) hx hb dMp_writeTo_131 (by decide) (fun c_1 => ?_) (fun c_1 => ?_)
  · have h := op_t c_1 h
    refine lv_aload_n hx hb dMp_writeTo_155 rfl (lv_at hl 0 rfl) ?_
    obtain ⟨q_2, hq_2, h⟩ := op_b h
    have hgr_3 : phSB q_2.2 ≤ phSB r.2 := nMp_writeTo_159 (niMp_writeTo n) _ _ _ _ _ _ _ h
    have hg2_4 : phSB o5 ≤ phSB q_2.2 := nSc_close _ _ _ hq_2
    refine cf_callv (wc := wSc K h1 (fun _ => h5) o1 ++ wSB K h5 a5 o5) (wr := wMp K h0 a0 o0 ++ wNl K h2 a2 o2 ++ wGr K h3 a3 o3 ++ wLi K h4 a4 o4) (va_runV (As := []) (rest := []) ⟨hx, hb, hml, hown, hts⟩ (mSc_close l D K _ h1 h5 a5 o1 o5 _ hq_2) (cwV 0 hts (cf_GV wv_1968 wv_1841 wv_1842 wv_165 wv_1843) rfl rfl rfl (by decide +kernel) ⟨Nat.le_of_ble_eq_true rfl, Nat.le_of_ble_eq_true rfl⟩) (cf_preV (wc := wSc K h1 (fun _ => h5) o1 ++ wSB K h5 a5 o5) hE hP hD hS hA rfl 5 rfl [5, 36, 37] rfl (by decide +kernel)) rfl rfl hl.1 rfl (lv_room (Nat.le_of_ble_eq_true rfl)) dMp_writeTo_156 ⟨Nat.le_trans (gC_add hg hg2_4) (gC_le hgr_3), Nat.le_trans (gS_add hg hg2_4) (gS_le hgr_3)⟩) hP hD hS hA [5, 36, 37] [0, 1, 2, 3, 4, 6, 7, 8, 9, 10, 11, 12, 13, 14, 15, 16, 17, 18, 19, 20, 21, 22, 23, 24, 25, 26, 27, 28, 29, 30, 31, 32, 33, 34, 35] rfl rfl (by decide +kernel) (by decide +kernel) (fun a5_6 H locs hw_5 hP hD hS => ?_)
    have hP : va_P D vwCl (wMp K h0 a0 o0 ++ wSc K h1 (fun _ => h5) q_2.1 ++ wNl K h2 a2 o2 ++ wGr K h3 a3 o3 ++ wLi K h4 a4 o4 ++ wSB K h5 a5_6 q_2.2) H := hP.sub [0, 1, 2, 3, 4, 35, 5, 6, 7, 8, 9, 10, 11, 12, 13, 14, 15, 16, 17, 18, 19, 20, 21, 22, 23, 24, 25, 26, 27, 28, 29, 30, 31, 32, 33, 34, 36, 37] rfl
    have hD : va_D A (wMp K h0 a0 o0 ++ wSc K h1 (fun _ => h5) q_2.1 ++ wNl K h2 a2 o2 ++ wGr K h3 a3 o3 ++ wLi K h4 a4 o4 ++ wSB K h5 a5_6 q_2.2) := hD.sub [0, 1, 2, 3, 4, 35, 5, 6, 7, 8, 9, 10, 11, 12, 13, 14, 15, 16, 17, 18, 19, 20, 21, 22, 23, 24, 25, 26, 27, 28, 29, 30, 31, 32, 33, 34, 36, 37] (by decide +kernel) rfl
    refine W.widen (k := (gC (phSB os) (phSB q_2.2))) (n := (gS (phSB os) (phSB q_2.2))) (gC_add hg hg2_4) (gS_add hg hg2_4) ?_
    have hg : phSB os ≤ phSB q_2.2 := Nat.le_trans hg hg2_4
    exact bMp_writeTo_159 C ih _ _ _ _ _ _ _ h hg hP hD hS (lv_sub hl [] rfl)
  · have h := op_f c_1 h
    refine lv_aload_n hx hb dMp_writeTo_134 rfl (lv_at hl 0 rfl) ?_
    refine lv_aload_n hx hb dMp_writeTo_135 rfl (lv_at hl 1 rfl) ?_
    refine lv_iload hx hb dMp_writeTo_136 (lv_at hl 3 rfl) ?_
    refine lv_aload_n hx hb dMp_writeTo_138 rfl (lv_at hl 2 rfl) ?_
    refine va_get (D := D) (ci := 3) (v := .ref (a3 7)) (C := RGr) (T := TGr) (N := 10) hx hb hts inGr hown hK hP 19 rfl rfl 7 (by decide) (hts _ wv_578) (fun _ h9 => h9) rfl dMp_writeTo_139 ?_
    refine lv_iload hx hb dMp_writeTo_142 (lv_at hl 3 rfl) ?_
    obtain ⟨hi_7, h⟩ := op_n h
    refine va_iald (D := D) hx hb hK hP 23 0 rfl rfl hi_7 dMp_writeTo_144 ?_
    refine lv_topi (fun x_8 ex_8 => ?_)
    have h := op_ks ex_8 h
    refine lv_iconst (v := 0) hx hb dMp_writeTo_145 (by decide) ?_
    obtain ⟨q_9, hq_9, h⟩ := op_b h
    have hgr_10 : phSB q_9 ≤ phSB r.2 := nMp_writeTo_149 (niMp_writeTo n) _ _ _ _ _ _ _ _ h
    have hg2_11 : phSB o5 ≤ phSB q_9 := nSc_writeResult _ _ _ _ _ _ _ hq_9
    refine cf_callv (wc := wSc K h1 (fun _ => h5) o1 ++ wNl K h2 a2 o2 ++ wSB K h5 a5 o5) (wr := wMp K h0 a0 o0 ++ wGr K h3 a3 o3 ++ wLi K h4 a4 o4) (va_runV (As := [.ref h2, .int v5, .int x_8, .int 0]) (rest := []) ⟨hx, hb, hml, hown, hts⟩ (mSc_writeResult l D K _ v5 x_8 0 h1 h2 a2 h5 a5 o1 o2 o5 _ hq_9) (cwV 4 hts (cf_GV wv_1967 wv_1833 wv_1834 wv_165 wv_1835) rfl rfl rfl (by decide +kernel) ⟨Nat.le_of_ble_eq_true rfl, Nat.le_of_ble_eq_true rfl⟩) (cf_preV (wc := wSc K h1 (fun _ => h5) o1 ++ wNl K h2 a2 o2 ++ wSB K h5 a5 o5) hE hP hD hS hA rfl 5 rfl [5, 6, 7, 8, 9, 10, 11, 12, 13, 14, 15, 16, 17, 18, 36, 37] rfl (by decide +kernel)) rfl rfl hl.1 rfl (lv_room (Nat.le_of_ble_eq_true rfl)) dMp_writeTo_146 ⟨Nat.le_trans (gC_add hg hg2_11) (gC_le hgr_10), Nat.le_trans (gS_add hg hg2_11) (gS_le hgr_10)⟩) hP hD hS hA [5, 6, 7, 8, 9, 10, 11, 12, 13, 14, 15, 16, 17, 18, 36, 37] [0, 1, 2, 3, 4, 19, 20, 21, 22, 23, 24, 25, 26, 27, 28, 29, 30, 31, 32, 33, 34, 35] rfl rfl (by decide +kernel) (by decide +kernel) (fun a5_13 H locs hw_12 hP hD hS => ?_)
    have hP : va_P D vwCl (wMp K h0 a0 o0 ++ wSc K h1 (fun _ => h5) o1 ++ wNl K h2 a2 o2 ++ wGr K h3 a3 o3 ++ wLi K h4 a4 o4 ++ wSB K h5 a5_13 q_9) H := hP.sub [0, 1, 2, 3, 4, 22, 23, 24, 25, 26, 27, 28, 29, 30, 31, 32, 33, 34, 35, 5, 6, 7, 8, 9, 10, 11, 12, 13, 14, 15, 16, 17, 18, 19, 20, 21, 36, 37] rfl
    have hD : va_D A (wMp K h0 a0 o0 ++ wSc K h1 (fun _ => h5) o1 ++ wNl K h2 a2 o2 ++ wGr K h3 a3 o3 ++ wLi K h4 a4 o4 ++ wSB K h5 a5_13 q_9) := hD.sub [0, 1, 2, 3, 4, 22, 23, 24, 25, 26, 27, 28, 29, 30, 31, 32, 33, 34, 35, 5, 6, 7, 8, 9, 10, 11, 12, 13, 14, 15, 16, 17, 18, 19, 20, 21, 36, 37] (by decide +kernel) rfl
    refine W.widen (k := (gC (phSB os) (phSB q_9))) (n := (gS (phSB os) (phSB q_9))) (gC_add hg hg2_11) (gS_add hg hg2_11) ?_
    have hg : phSB os ≤ phSB q_9 := Nat.le_trans hg hg2_11
    exact bMp_writeTo_149 C ih _ _ _ _ _ _ _ _ h hg hP hD hS (lv_sub hl [0, 1, 2, 3] rfl)
set_option maxHeartbeats 4000000 in
set_option maxRecDepth 100000 in
theorem bMp_writeTo_115 {p : Program} {l : Launch} {e : Env} {s : State} {m : MethodId} {below : List Frame} {meth : Method} {c : Code} {A : Nat → Prop} {D : va_G} {K : Nat → ClassId} {h0 : Nat} {a0 : Nat → Nat} {h1 : Nat} {h2 : Nat} {a2 : Nat → Nat} {h3 : Nat} {a3 : Nat → Nat} {h4 : Nat} {a4 : Nat → Nat} {h5 : Nat} {os : cf_O} {AR : Array Value} (C : (dc_C p s m AR meth c cMp_writeTo 10 (Option.none : Option Jvm.ClassFile.FieldType) yMp_writeTo ∧ cf_E D K A s s.heap ∧ ∀ q, s.heap.size ≤ q → A q)) {n : Nat} (ih : IhMp_writeTo p l e s m below meth c A D K h0 a0 h1 h2 a2 h3 a3 h4 a4 h5 os AR n) (v5 : Int32) (o0 : cf_O) (o1 : cf_O) (o2 : cf_O) (o3 : cf_O) (o4 : cf_O) (o5 : cf_O) (r : cf_O × cf_O) (h : fMp_writeTo_115 (gMp_writeTo n) v5 o0 o1 o2 o3 o4 o5 = some r) {a5 : Nat → Nat} {H : Heap} {locs : List Loc} {ls : Array Slot} (hg : phSB os ≤ phSB o5) (hP : va_P D vwCl (wMp K h0 a0 o0 ++ wSc K h1 (fun _ => h5) o1 ++ wNl K h2 a2 o2 ++ wGr K h3 a3 o3 ++ wLi K h4 a4 o4 ++ wSB K h5 a5 o5) H) (hD : va_D A (wMp K h0 a0 o0 ++ wSc K h1 (fun _ => h5) o1 ++ wNl K h2 a2 o2 ++ wGr K h3 a3 o3 ++ wLi K h4 a4 o4 ++ wSB K h5 a5 o5)) (hS : va_S A s.heap H locs) (hl : lv_has ls 10 [(0, .ref h0), (1, .ref h1), (2, .ref h2), (3, .ref h3), (4, .ref h4), (5, .int v5)]) : W p l e ({ frames := 9, cells := (gC (phSB os) (phSB r.2)), slots := (gS (phSB os) (phSB r.2)), locals := 238 }) s m AR below meth c H locs (gC (phSB os) (phSB o5)) (gS (phSB os) (phSB o5)) (MQ below (va_Qv (fun (_ : Nat → Nat) => True) (fun (u : Nat → Nat) t => cf_At D A (wMp K h0 a0 o0 ++ wSc K h1 (fun _ => h5) r.1 ++ wNl K h2 a2 o2 ++ wGr K h3 a3 o3 ++ wLi K h4 a4 o4 ++ wSB K h5 u r.2) t) A) AR s (gC (phSB os) (phSB r.2)) (gS (phSB os) (phSB r.2)) A) (F0 m 115 ls [.ref h5]) := by
  obtain ⟨⟨hx, hb, hr, hts, hown, hlocks, hin, hml⟩, hE, hA⟩ := id C
  have hK := hE.k
  refine lv_pop hx hb dMp_writeTo_115 rfl ?_
  obtain ⟨x_1, ex_1⟩ : ∃ y : Int32, y = v5 + 1 := ⟨_, rfl⟩
  refine lv_iinc (v := x_1) (lv' := [(5, .int x_1), (0, .ref h0), (1, .ref h1), (2, .ref h2), (3, .ref h3), (4, .ref h4)]) hx hb dMp_writeTo_116 hl (k := 5) rfl (by rw [ex_1]; rfl) (by decide) rfl (fun ls hl => ?_)
  have h := op_ks ex_1 h
  refine lv_goto (tgt := 8) hx hb dMp_writeTo_119 (by decide) ?_
  exact (ih.1) _ _ _ _ _ _ _ _ h hg hP hD hS (lv_sub hl [1, 2, 3, 4, 5, 0] rfl)
set_option maxHeartbeats 4000000 in
set_option maxRecDepth 100000 in
theorem bMp_writeTo_106 {p : Program} {l : Launch} {e : Env} {s : State} {m : MethodId} {below : List Frame} {meth : Method} {c : Code} {A : Nat → Prop} {D : va_G} {K : Nat → ClassId} {h0 : Nat} {a0 : Nat → Nat} {h1 : Nat} {h2 : Nat} {a2 : Nat → Nat} {h3 : Nat} {a3 : Nat → Nat} {h4 : Nat} {a4 : Nat → Nat} {h5 : Nat} {os : cf_O} {AR : Array Value} (C : (dc_C p s m AR meth c cMp_writeTo 10 (Option.none : Option Jvm.ClassFile.FieldType) yMp_writeTo ∧ cf_E D K A s s.heap ∧ ∀ q, s.heap.size ≤ q → A q)) {n : Nat} (ih : IhMp_writeTo p l e s m below meth c A D K h0 a0 h1 h2 a2 h3 a3 h4 a4 h5 os AR n) (v5 : Int32) (o0 : cf_O) (o1 : cf_O) (o2 : cf_O) (o3 : cf_O) (o4 : cf_O) (o5 : cf_O) (r : cf_O × cf_O) (h : fMp_writeTo_106 (gMp_writeTo n) v5 o0 o1 o2 o3 o4 o5 = some r) {a5 : Nat → Nat} {H : Heap} {locs : List Loc} {ls : Array Slot} (hg : phSB os ≤ phSB o5) (hP : va_P D vwCl (wMp K h0 a0 o0 ++ wSc K h1 (fun _ => h5) o1 ++ wNl K h2 a2 o2 ++ wGr K h3 a3 o3 ++ wLi K h4 a4 o4 ++ wSB K h5 a5 o5) H) (hD : va_D A (wMp K h0 a0 o0 ++ wSc K h1 (fun _ => h5) o1 ++ wNl K h2 a2 o2 ++ wGr K h3 a3 o3 ++ wLi K h4 a4 o4 ++ wSB K h5 a5 o5)) (hS : va_S A s.heap H locs) (hl : lv_has ls 10 [(0, .ref h0), (1, .ref h1), (2, .ref h2), (3, .ref h3), (4, .ref h4), (5, .int v5)]) : W p l e ({ frames := 9, cells := (gC (phSB os) (phSB r.2)), slots := (gS (phSB os) (phSB r.2)), locals := 238 }) s m AR below meth c H locs (gC (phSB os) (phSB o5)) (gS (phSB os) (phSB o5)) (MQ below (va_Qv (fun (_ : Nat → Nat) => True) (fun (u : Nat → Nat) t => cf_At D A (wMp K h0 a0 o0 ++ wSc K h1 (fun _ => h5) r.1 ++ wNl K h2 a2 o2 ++ wGr K h3 a3 o3 ++ wLi K h4 a4 o4 ++ wSB K h5 u r.2) t) A) AR s (gC (phSB os) (phSB r.2)) (gS (phSB os) (phSB r.2)) A) (F0 m 106 ls []) := by
  obtain ⟨⟨hx, hb, hr, hts, hown, hlocks, hin, hml⟩, hE, hA⟩ := id C
  have hK := hE.k
  refine lv_aload_n hx hb dMp_writeTo_106 rfl (lv_at hl 1 rfl) ?_
  refine va_get (D := D) (ci := 10) (v := .ref h5) (C := RSc) (T := TSc) (N := 2) hx hb hts inSc hown hK hP 5 rfl rfl 1 (by decide) (hts _ wv_471) (fun _ h9 => h9) rfl dMp_writeTo_107 ?_
  refine lv_bipush (v := 10) hx hb dMp_writeTo_110 (by decide) ?_
  obtain ⟨q_1, hq_1, h⟩ := op_b h
  have hgr_2 : phSB q_1 ≤ phSB r.2 := nMp_writeTo_115 (niMp_writeTo n) _ _ _ _ _ _ _ _ h
  have hg2_3 : phSB o5 ≤ phSB q_1 := nSB_appendC _ _ _ hq_1
  refine cf_callR (wc := wSB K h5 a5 o5) (wr := wMp K h0 a0 o0 ++ wSc K h1 (fun _ => h5) o1 ++ wNl K h2 a2 o2 ++ wGr K h3 a3 o3 ++ wLi K h4 a4 o4) (va_runV (As := [.int 10]) (rest := []) ⟨hx, hb, hml, hown, hts⟩ (mSB_appendC l D K _ 10 h5 a5 o5 _ hq_1) (cwV 1 hts (cf_GV wv_1966 wv_1799 wv_1800 wv_167 wv_1801) rfl rfl rfl (by decide +kernel) ⟨Nat.le_of_ble_eq_true rfl, Nat.le_of_ble_eq_true rfl⟩) (cf_preV (wc := wSB K h5 a5 o5) hE hP hD hS hA rfl 36 rfl [36, 37] rfl (by decide +kernel)) rfl rfl hl.1 rfl (lv_room (Nat.le_of_ble_eq_true rfl)) dMp_writeTo_112 ⟨Nat.le_trans (gC_add hg hg2_3) (gC_le hgr_2), Nat.le_trans (gS_add hg hg2_3) (gS_le hgr_2)⟩) hP hD hS hA [36, 37] [0, 1, 2, 3, 4, 5, 6, 7, 8, 9, 10, 11, 12, 13, 14, 15, 16, 17, 18, 19, 20, 21, 22, 23, 24, 25, 26, 27, 28, 29, 30, 31, 32, 33, 34, 35] rfl rfl (by decide +kernel) (by decide +kernel) (fun a5_5 H locs hw_4 hP hD hS => ?_)
  have hP : va_P D vwCl (wMp K h0 a0 o0 ++ wSc K h1 (fun _ => h5) o1 ++ wNl K h2 a2 o2 ++ wGr K h3 a3 o3 ++ wLi K h4 a4 o4 ++ wSB K h5 a5_5 q_1) H := hP.sub [0, 1, 2, 3, 4, 5, 6, 7, 8, 9, 10, 11, 12, 13, 14, 15, 16, 17, 18, 19, 20, 21, 22, 23, 24, 25, 26, 27, 28, 29, 30, 31, 32, 33, 34, 35, 36, 37] rfl
  have hD : va_D A (wMp K h0 a0 o0 ++ wSc K h1 (fun _ => h5) o1 ++ wNl K h2 a2 o2 ++ wGr K h3 a3 o3 ++ wLi K h4 a4 o4 ++ wSB K h5 a5_5 q_1) := hD.sub [0, 1, 2, 3, 4, 5, 6, 7, 8, 9, 10, 11, 12, 13, 14, 15, 16, 17, 18, 19, 20, 21, 22, 23, 24, 25, 26, 27, 28, 29, 30, 31, 32, 33, 34, 35, 36, 37] (by decide +kernel) rfl
  refine W.widen (k := (gC (phSB os) (phSB q_1))) (n := (gS (phSB os) (phSB q_1))) (gC_add hg hg2_3) (gS_add hg hg2_3) ?_
  have hg : phSB os ≤ phSB q_1 := Nat.le_trans hg hg2_3
  exact bMp_writeTo_115 C ih _ _ _ _ _ _ _ _ h hg hP hD hS (lv_sub hl [0, 1, 2, 3, 4, 5] rfl)
set_option maxHeartbeats 4000000 in
set_option maxRecDepth 100000 in
theorem bMp_writeTo_88 {p : Program} {l : Launch} {e : Env} {s : State} {m : MethodId} {below : List Frame} {meth : Method} {c : Code} {A : Nat → Prop} {D : va_G} {K : Nat → ClassId} {h0 : Nat} {a0 : Nat → Nat} {h1 : Nat} {h2 : Nat} {a2 : Nat → Nat} {h3 : Nat} {a3 : Nat → Nat} {h4 : Nat} {a4 : Nat → Nat} {h5 : Nat} {os : cf_O} {AR : Array Value} (C : (dc_C p s m AR meth c cMp_writeTo 10 (Option.none : Option Jvm.ClassFile.FieldType) yMp_writeTo ∧ cf_E D K A s s.heap ∧ ∀ q, s.heap.size ≤ q → A q)) {n : Nat} (ih : IhMp_writeTo p l e s m below meth c A D K h0 a0 h1 h2 a2 h3 a3 h4 a4 h5 os AR n) (v5 : Int32) (v6 : Int64) (v8 : Int32) (v9 : Int32) (o0 : cf_O) (o1 : cf_O) (o2 : cf_O) (o3 : cf_O) (o4 : cf_O) (o5 : cf_O) (r : cf_O × cf_O) (h : fMp_writeTo_88 (gMp_writeTo n) v5 v6 v8 v9 o0 o1 o2 o3 o4 o5 = some r) {a5 : Nat → Nat} {H : Heap} {locs : List Loc} {ls : Array Slot} (hg : phSB os ≤ phSB o5) (hP : va_P D vwCl (wMp K h0 a0 o0 ++ wSc K h1 (fun _ => h5) o1 ++ wNl K h2 a2 o2 ++ wGr K h3 a3 o3 ++ wLi K h4 a4 o4 ++ wSB K h5 a5 o5) H) (hD : va_D A (wMp K h0 a0 o0 ++ wSc K h1 (fun _ => h5) o1 ++ wNl K h2 a2 o2 ++ wGr K h3 a3 o3 ++ wLi K h4 a4 o4 ++ wSB K h5 a5 o5)) (hS : va_S A s.heap H locs) (hl : lv_has ls 10 [(0, .ref h0), (1, .ref h1), (2, .ref h2), (3, .ref h3), (4, .ref h4), (5, .int v5), (6, .long v6), (8, .int v8), (9, .int v9)]) : W p l e ({ frames := 9, cells := (gC (phSB os) (phSB r.2)), slots := (gS (phSB os) (phSB r.2)), locals := 238 }) s m AR below meth c H locs (gC (phSB os) (phSB o5)) (gS (phSB os) (phSB o5)) (MQ below (va_Qv (fun (_ : Nat → Nat) => True) (fun (u : Nat → Nat) t => cf_At D A (wMp K h0 a0 o0 ++ wSc K h1 (fun _ => h5) r.1 ++ wNl K h2 a2 o2 ++ wGr K h3 a3 o3 ++ wLi K h4 a4 o4 ++ wSB K h5 u r.2) t) A) AR s (gC (phSB os) (phSB r.2)) (gS (phSB os) (phSB r.2)) A) (F0 m 88 ls []) := by
  obtain ⟨⟨hx, hb, hr, hts, hown, hlocks, hin, hml⟩, hE, hA⟩ := id C
  have hK := hE.k
  obtain ⟨x_1, ex_1⟩ : ∃ y : Int32, y = v9 + 1 := ⟨_, rfl⟩
  refine lv_iinc (v := x_1) (lv' := [(9, .int x_1), (0, .ref h0), (1, .ref h1), (2, .ref h2), (3, .ref h3), (4, .ref h4), (5, .int v5), (6, .long v6), (8, .int v8)]) hx hb dMp_writeTo_88 hl (k := 8) rfl (by rw [ex_1]; rfl) (by decide) rfl (fun ls hl => ?_)
  have h := op_ks ex_1 h
  refine lv_goto (tgt := 63) hx hb dMp_writeTo_91 (by decide) ?_
  exact (ih.2.1) _ _ _ _ _ _ _ _ _ _ _ h hg hP hD hS (lv_sub hl [1, 2, 3, 4, 5, 6, 7, 8, 0] rfl)
set_option maxHeartbeats 4000000 in
set_option maxRecDepth 100000 in
theorem bMp_writeTo_85 {p : Program} {l : Launch} {e : Env} {s : State} {m : MethodId} {below : List Frame} {meth : Method} {c : Code} {A : Nat → Prop} {D : va_G} {K : Nat → ClassId} {h0 : Nat} {a0 : Nat → Nat} {h1 : Nat} {h2 : Nat} {a2 : Nat → Nat} {h3 : Nat} {a3 : Nat → Nat} {h4 : Nat} {a4 : Nat → Nat} {h5 : Nat} {os : cf_O} {AR : Array Value} (C : (dc_C p s m AR meth c cMp_writeTo 10 (Option.none : Option Jvm.ClassFile.FieldType) yMp_writeTo ∧ cf_E D K A s s.heap ∧ ∀ q, s.heap.size ≤ q → A q)) {n : Nat} (ih : IhMp_writeTo p l e s m below meth c A D K h0 a0 h1 h2 a2 h3 a3 h4 a4 h5 os AR n) (v5 : Int32) (v6 : Int64) (v8 : Int32) (v9 : Int32) (s2 : Int32) (o0 : cf_O) (o1 : cf_O) (o2 : cf_O) (o3 : cf_O) (o4 : cf_O) (o5 : cf_O) (r : cf_O × cf_O) (h : fMp_writeTo_85 (gMp_writeTo n) v5 v6 v8 v9 s2 o0 o1 o2 o3 o4 o5 = some r) {a5 : Nat → Nat} {H : Heap} {locs : List Loc} {ls : Array Slot} (hg : phSB os ≤ phSB o5) (hP : va_P D vwCl (wMp K h0 a0 o0 ++ wSc K h1 (fun _ => h5) o1 ++ wNl K h2 a2 o2 ++ wGr K h3 a3 o3 ++ wLi K h4 a4 o4 ++ wSB K h5 a5 o5) H) (hD : va_D A (wMp K h0 a0 o0 ++ wSc K h1 (fun _ => h5) o1 ++ wNl K h2 a2 o2 ++ wGr K h3 a3 o3 ++ wLi K h4 a4 o4 ++ wSB K h5 a5 o5)) (hS : va_S A s.heap H locs) (hl : lv_has ls 10 [(0, .ref h0), (1, .ref h1), (2, .ref h2), (3, .ref h3), (4, .ref h4), (5, .int v5), (6, .long v6), (8, .int v8), (9, .int v9)]) : W p l e ({ frames := 9, cells := (gC (phSB os) (phSB r.2)), slots := (gS (phSB os) (phSB r.2)), locals := 238 }) s m AR below meth c H locs (gC (phSB os) (phSB o5)) (gS (phSB os) (phSB o5)) (MQ below (va_Qv (fun (_ : Nat → Nat) => True) (fun (u : Nat → Nat) t => cf_At D A (wMp K h0 a0 o0 ++ wSc K h1 (fun _ => h5) r.1 ++ wNl K h2 a2 o2 ++ wGr K h3 a3 o3 ++ wLi K h4 a4 o4 ++ wSB K h5 u r.2) t) A) AR s (gC (phSB os) (phSB r.2)) (gS (phSB os) (phSB r.2)) A) (F0 m 85 ls [.int s2, .ref h2, .ref h1]) := by
  obtain ⟨⟨hx, hb, hr, hts, hown, hlocks, hin, hml⟩, hE, hA⟩ := id C
  have hK := hE.k
  obtain ⟨q_1, hq_1, h⟩ := op_b h
  have hgr_2 : phSB q_1 ≤ phSB r.2 := nMp_writeTo_88 (niMp_writeTo n) _ _ _ _ _ _ _ _ _ _ _ h
  have hg2_3 : phSB o5 ≤ phSB q_1 := nSc_writeLiteral _ _ _ _ _ hq_1
  refine cf_callv (wc := wSc K h1 (fun _ => h5) o1 ++ wNl K h2 a2 o2 ++ wSB K h5 a5 o5) (wr := wMp K h0 a0 o0 ++ wGr K h3 a3 o3 ++ wLi K h4 a4 o4) (va_runV (As := [.ref h2, .int s2]) (rest := []) ⟨hx, hb, hml, hown, hts⟩ (mSc_writeLiteral l D K _ s2 h1 h2 a2 h5 a5 o1 o2 o5 _ hq_1) (cwV 2 hts (cf_GV wv_1965 wv_1821 wv_1822 wv_165 wv_1823) rfl rfl rfl (by decide +kernel) ⟨Nat.le_of_ble_eq_true rfl, Nat.le_of_ble_eq_true rfl⟩) (cf_preV (wc := wSc K h1 (fun _ => h5) o1 ++ wNl K h2 a2 o2 ++ wSB K h5 a5 o5) hE hP hD hS hA rfl 5 rfl [5, 6, 7, 8, 9, 10, 11, 12, 13, 14, 15, 16, 17, 18, 36, 37] rfl (by decide +kernel)) rfl rfl hl.1 rfl (lv_room (Nat.le_of_ble_eq_true rfl)) dMp_writeTo_85 ⟨Nat.le_trans (gC_add hg hg2_3) (gC_le hgr_2), Nat.le_trans (gS_add hg hg2_3) (gS_le hgr_2)⟩) hP hD hS hA [5, 6, 7, 8, 9, 10, 11, 12, 13, 14, 15, 16, 17, 18, 36, 37] [0, 1, 2, 3, 4, 19, 20, 21, 22, 23, 24, 25, 26, 27, 28, 29, 30, 31, 32, 33, 34, 35] rfl rfl (by decide +kernel) (by decide +kernel) (fun a5_5 H locs hw_4 hP hD hS => ?_)
  have hP : va_P D vwCl (wMp K h0 a0 o0 ++ wSc K h1 (fun _ => h5) o1 ++ wNl K h2 a2 o2 ++ wGr K h3 a3 o3 ++ wLi K h4 a4 o4 ++ wSB K h5 a5_5 q_1) H := hP.sub [0, 1, 2, 3, 4, 22, 23, 24, 25, 26, 27, 28, 29, 30, 31, 32, 33, 34, 35, 5, 6, 7, 8, 9, 10, 11, 12, 13, 14, 15, 16, 17, 18, 19, 20, 21, 36, 37] rfl
  have hD : va_D A (wMp K h0 a0 o0 ++ wSc K h1 (fun _ => h5) o1 ++ wNl K h2 a2 o2 ++ wGr K h3 a3 o3 ++ wLi K h4 a4 o4 ++ wSB K h5 a5_5 q_1) := hD.sub [0, 1, 2, 3, 4, 22, 23, 24, 25, 26, 27, 28, 29, 30, 31, 32, 33, 34, 35, 5, 6, 7, 8, 9, 10, 11, 12, 13, 14, 15, 16, 17, 18, 19, 20, 21, 36, 37] (by decide +kernel) rfl
  refine W.widen (k := (gC (phSB os) (phSB q_1))) (n := (gS (phSB os) (phSB q_1))) (gC_add hg hg2_3) (gS_add hg hg2_3) ?_
  have hg : phSB os ≤ phSB q_1 := Nat.le_trans hg hg2_3
  exact bMp_writeTo_88 C ih _ _ _ _ _ _ _ _ _ _ _ h hg hP hD hS (lv_sub hl [0, 1, 2, 3, 4, 5, 6, 7, 8] rfl)
set_option maxHeartbeats 4000000 in
set_option maxRecDepth 100000 in
theorem bMp_writeTo_63 {p : Program} {l : Launch} {e : Env} {s : State} {m : MethodId} {below : List Frame} {meth : Method} {c : Code} {A : Nat → Prop} {D : va_G} {K : Nat → ClassId} {h0 : Nat} {a0 : Nat → Nat} {h1 : Nat} {h2 : Nat} {a2 : Nat → Nat} {h3 : Nat} {a3 : Nat → Nat} {h4 : Nat} {a4 : Nat → Nat} {h5 : Nat} {os : cf_O} {AR : Array Value} (C : (dc_C p s m AR meth c cMp_writeTo 10 (Option.none : Option Jvm.ClassFile.FieldType) yMp_writeTo ∧ cf_E D K A s s.heap ∧ ∀ q, s.heap.size ≤ q → A q)) {n : Nat} (ih : IhMp_writeTo p l e s m below meth c A D K h0 a0 h1 h2 a2 h3 a3 h4 a4 h5 os AR n) (v5 : Int32) (v6 : Int64) (v8 : Int32) (v9 : Int32) (o0 : cf_O) (o1 : cf_O) (o2 : cf_O) (o3 : cf_O) (o4 : cf_O) (o5 : cf_O) (r : cf_O × cf_O) (h : fMp_writeTo_63 (gMp_writeTo n) v5 v6 v8 v9 o0 o1 o2 o3 o4 o5 = some r) {a5 : Nat → Nat} {H : Heap} {locs : List Loc} {ls : Array Slot} (hg : phSB os ≤ phSB o5) (hP : va_P D vwCl (wMp K h0 a0 o0 ++ wSc K h1 (fun _ => h5) o1 ++ wNl K h2 a2 o2 ++ wGr K h3 a3 o3 ++ wLi K h4 a4 o4 ++ wSB K h5 a5 o5) H) (hD : va_D A (wMp K h0 a0 o0 ++ wSc K h1 (fun _ => h5) o1 ++ wNl K h2 a2 o2 ++ wGr K h3 a3 o3 ++ wLi K h4 a4 o4 ++ wSB K h5 a5 o5)) (hS : va_S A s.heap H locs) (hl : lv_has ls 10 [(0, .ref h0), (1, .ref h1), (2, .ref h2), (3, .ref h3), (4, .ref h4), (5, .int v5), (6, .long v6), (8, .int v8), (9, .int v9)]) : W p l e ({ frames := 9, cells := (gC (phSB os) (phSB r.2)), slots := (gS (phSB os) (phSB r.2)), locals := 238 }) s m AR below meth c H locs (gC (phSB os) (phSB o5)) (gS (phSB os) (phSB o5)) (MQ below (va_Qv (fun (_ : Nat → Nat) => True) (fun (u : Nat → Nat) t => cf_At D A (wMp K h0 a0 o0 ++ wSc K h1 (fun _ => h5) r.1 ++ wNl K h2 a2 o2 ++ wGr K h3 a3 o3 ++ wLi K h4 a4 o4 ++ wSB K h5 u r.2) t) A) AR s (gC (phSB os) (phSB r.2)) (gS (phSB os) (phSB r.2)) A) (F0 m 63 ls []) := by
  obtain ⟨⟨hx, hb, hr, hts, hown, hlocks, hin, hml⟩, hE, hA⟩ := id C
  have hK := hE.k
  refine lv_iload hx hb dMp_writeTo_63 (lv_at hl 8 rfl) ?_
  refine lv_aload hx hb dMp_writeTo_65 (lv_at hl 4 rfl) ?_
  refine va_get (D := D) (ci := 11) (v := .ref (a4 5)) (C := RLi) (T := TLi) (N := 12) hx hb hts inLi hown hK hP 26 rfl rfl 5 (by decide) (hts _ wv_623) (fun _ h9 => h9) rfl dMp_writeTo_67 ?_
  refine lv_iload hx hb dMp_writeTo_70 (lv_at hl 7 rfl) ?_
  obtain ⟨hi_1, h⟩ := op_n h
  refine va_iald (D := D) hx hb hK hP 30 0 rfl rfl hi_1 dMp_writeTo_72 ?_
  refine lv_topi (fun x_2 ex_2 => ?_)
  have h := op_ks ex_2 h
  refine lv_icmp_ge (tgt := 94) hx hb dMp_writeTo_73 (by decide) (fun c_3 => ?_) (fun c_3 => ?_)
  · have h := op_t c_3 h
    refine lv_aload_n hx hb dMp_writeTo_94 rfl (lv_at hl 1 rfl) ?_
    refine lv_aload_n hx hb dMp_writeTo_95 rfl (lv_at hl 2 rfl) ?_
    refine lv_aload_n hx hb dMp_writeTo_96 rfl (lv_at hl 0 rfl) ?_
    refine va_get (D := D) (ci := 9) (v := .ref (a0 3)) (C := RMp) (T := TMp) (N := 7) hx hb hts inMp hown hK hP 0 rfl rfl 3 (by decide) (hts _ wv_408) (fun _ h9 => h9) rfl dMp_writeTo_97 ?_
    refine lv_iload hx hb dMp_writeTo_100 (lv_at hl 5 rfl) ?_
    obtain ⟨hi_4, h⟩ := op_n h
    refine va_iald (D := D) hx hb hK hP 1 0 rfl rfl hi_4 dMp_writeTo_102 ?_
    refine lv_topi (fun x_5 ex_5 => ?_)
    have h := op_ks ex_5 h
    obtain ⟨q_6, hq_6, h⟩ := op_b h
    have hgr_7 : phSB q_6 ≤ phSB r.2 := nMp_writeTo_106 (niMp_writeTo n) _ _ _ _ _ _ _ _ h
    have hg2_8 : phSB o5 ≤ phSB q_6 := nSc_writeLiteral _ _ _ _ _ hq_6
    refine cf_callv (wc := wSc K h1 (fun _ => h5) o1 ++ wNl K h2 a2 o2 ++ wSB K h5 a5 o5) (wr := wMp K h0 a0 o0 ++ wGr K h3 a3 o3 ++ wLi K h4 a4 o4) (va_runV (As := [.ref h2, .int x_5]) (rest := []) ⟨hx, hb, hml, hown, hts⟩ (mSc_writeLiteral l D K _ x_5 h1 h2 a2 h5 a5 o1 o2 o5 _ hq_6) (cwV 2 hts (cf_GV wv_1965 wv_1821 wv_1822 wv_165 wv_1823) rfl rfl rfl (by decide +kernel) ⟨Nat.le_of_ble_eq_true rfl, Nat.le_of_ble_eq_true rfl⟩) (cf_preV (wc := wSc K h1 (fun _ => h5) o1 ++ wNl K h2 a2 o2 ++ wSB K h5 a5 o5) hE hP hD hS hA rfl 5 rfl [5, 6, 7, 8, 9, 10, 11, 12, 13, 14, 15, 16, 17, 18, 36, 37] rfl (by decide +kernel)) rfl rfl hl.1 rfl (lv_room (Nat.le_of_ble_eq_true rfl)) dMp_writeTo_103 ⟨Nat.le_trans (gC_add hg hg2_8) (gC_le hgr_7), Nat.le_trans (gS_add hg hg2_8) (gS_le hgr_7)⟩) hP hD hS hA [5, 6, 7, 8, 9, 10, 11, 12, 13, 14, 15, 16, 17, 18, 36, 37] [0, 1, 2, 3, 4, 19, 20, 21, 22, 23, 24, 25, 26, 27, 28, 29, 30, 31, 32, 33, 34, 35] rfl rfl (by decide +kernel) (by decide +kernel) (fun a5_10 H locs hw_9 hP hD hS => ?_)
    have hP : va_P D vwCl (wMp K h0 a0 o0 ++ wSc K h1 (fun _ => h5) o1 ++ wNl K h2 a2 o2 ++ wGr K h3 a3 o3 ++ wLi K h4 a4 o4 ++ wSB K h5 a5_10 q_6) H := hP.sub [0, 1, 2, 3, 4, 22, 23, 24, 25, 26, 27, 28, 29, 30, 31, 32, 33, 34, 35, 5, 6, 7, 8, 9, 10, 11, 12, 13, 14, 15, 16, 17, 18, 19, 20, 21, 36, 37] rfl
    have hD : va_D A (wMp K h0 a0 o0 ++ wSc K h1 (fun _ => h5) o1 ++ wNl K h2 a2 o2 ++ wGr K h3 a3 o3 ++ wLi K h4 a4 o4 ++ wSB K h5 a5_10 q_6) := hD.sub [0, 1, 2, 3, 4, 22, 23, 24, 25, 26, 27, 28, 29, 30, 31, 32, 33, 34, 35, 5, 6, 7, 8, 9, 10, 11, 12, 13, 14, 15, 16, 17, 18, 19, 20, 21, 36, 37] (by decide +kernel) rfl
    refine W.widen (k := (gC (phSB os) (phSB q_6))) (n := (gS (phSB os) (phSB q_6))) (gC_add hg hg2_8) (gS_add hg hg2_8) ?_
    have hg : phSB os ≤ phSB q_6 := Nat.le_trans hg hg2_8
    exact bMp_writeTo_106 C ih _ _ _ _ _ _ _ _ h hg hP hD hS (lv_sub hl [0, 1, 2, 3, 4, 5] rfl)
  · have h := op_f c_3 h
    refine lv_aload_n hx hb dMp_writeTo_76 rfl (lv_at hl 1 rfl) ?_
    refine lv_aload_n hx hb dMp_writeTo_77 rfl (lv_at hl 2 rfl) ?_
    refine lv_lload hx hb dMp_writeTo_78 (lv_at hl 6 rfl) ?_
    refine lv_iload hx hb dMp_writeTo_80 (lv_at hl 8 rfl) ?_
    obtain ⟨q_11, hq_11, h⟩ := op_b h
    have hgr_12 : phSB o5 ≤ phSB r.2 := nMp_writeTo_85 (niMp_writeTo n) _ _ _ _ _ _ _ _ _ _ _ _ h
    refine cf_pcalli (va_runS (As := [.long v6, .int v9]) (rest := [.ref h2, .ref h1]) ⟨hx, hb, hml, hown, hts⟩ (mMp_pinOf l v6 v9 _ hq_11) (va_cwS 2 hts (cf_GS wv_1925 wv_1926 wv_164 wv_1927) rfl rfl rfl (by decide +kernel) ⟨Nat.le_of_ble_eq_true rfl, Nat.le_of_ble_eq_true rfl⟩) preEq rfl rfl hl.1 rfl (lv_room (Nat.le_of_ble_eq_true rfl)) dMp_writeTo_82 ⟨gC_le hgr_12, gS_le hgr_12⟩) (fun r_14 hw_15 => ?_)
    subst r_14
    refine W.widen (k := (gC (phSB os) (phSB o5))) (n := (gS (phSB os) (phSB o5))) (Nat.le_refl _) (Nat.le_refl _) ?_
    exact bMp_writeTo_85 C ih _ _ _ _ _ _ _ _ _ _ _ _ h hg hP hD hS (lv_sub hl [0, 1, 2, 3, 4, 5, 6, 7, 8] rfl)
set_option maxHeartbeats 4000000 in
set_option maxRecDepth 100000 in
theorem bMp_writeTo_60 {p : Program} {l : Launch} {e : Env} {s : State} {m : MethodId} {below : List Frame} {meth : Method} {c : Code} {A : Nat → Prop} {D : va_G} {K : Nat → ClassId} {h0 : Nat} {a0 : Nat → Nat} {h1 : Nat} {h2 : Nat} {a2 : Nat → Nat} {h3 : Nat} {a3 : Nat → Nat} {h4 : Nat} {a4 : Nat → Nat} {h5 : Nat} {os : cf_O} {AR : Array Value} (C : (dc_C p s m AR meth c cMp_writeTo 10 (Option.none : Option Jvm.ClassFile.FieldType) yMp_writeTo ∧ cf_E D K A s s.heap ∧ ∀ q, s.heap.size ≤ q → A q)) {n : Nat} (ih : IhMp_writeTo p l e s m below meth c A D K h0 a0 h1 h2 a2 h3 a3 h4 a4 h5 os AR n) (v5 : Int32) (v6 : Int64) (v8 : Int32) (o0 : cf_O) (o1 : cf_O) (o2 : cf_O) (o3 : cf_O) (o4 : cf_O) (o5 : cf_O) (r : cf_O × cf_O) (h : fMp_writeTo_60 (gMp_writeTo n) v5 v6 v8 o0 o1 o2 o3 o4 o5 = some r) {a5 : Nat → Nat} {H : Heap} {locs : List Loc} {ls : Array Slot} (hg : phSB os ≤ phSB o5) (hP : va_P D vwCl (wMp K h0 a0 o0 ++ wSc K h1 (fun _ => h5) o1 ++ wNl K h2 a2 o2 ++ wGr K h3 a3 o3 ++ wLi K h4 a4 o4 ++ wSB K h5 a5 o5) H) (hD : va_D A (wMp K h0 a0 o0 ++ wSc K h1 (fun _ => h5) o1 ++ wNl K h2 a2 o2 ++ wGr K h3 a3 o3 ++ wLi K h4 a4 o4 ++ wSB K h5 a5 o5)) (hS : va_S A s.heap H locs) (hl : lv_has ls 10 [(0, .ref h0), (1, .ref h1), (2, .ref h2), (3, .ref h3), (4, .ref h4), (5, .int v5), (6, .long v6), (8, .int v8)]) : W p l e ({ frames := 9, cells := (gC (phSB os) (phSB r.2)), slots := (gS (phSB os) (phSB r.2)), locals := 238 }) s m AR below meth c H locs (gC (phSB os) (phSB o5)) (gS (phSB os) (phSB o5)) (MQ below (va_Qv (fun (_ : Nat → Nat) => True) (fun (u : Nat → Nat) t => cf_At D A (wMp K h0 a0 o0 ++ wSc K h1 (fun _ => h5) r.1 ++ wNl K h2 a2 o2 ++ wGr K h3 a3 o3 ++ wLi K h4 a4 o4 ++ wSB K h5 u r.2) t) A) AR s (gC (phSB os) (phSB r.2)) (gS (phSB os) (phSB r.2)) A) (F0 m 60 ls []) := by
  obtain ⟨⟨hx, hb, hr, hts, hown, hlocks, hin, hml⟩, hE, hA⟩ := id C
  have hK := hE.k
  refine lv_iconst (v := 0) hx hb dMp_writeTo_60 (by decide) ?_
  refine lv_istore (lv' := [(9, .int 0), (0, .ref h0), (1, .ref h1), (2, .ref h2), (3, .ref h3), (4, .ref h4), (5, .int v5), (6, .long v6), (8, .int v8)]) hx hb dMp_writeTo_61 hl (by decide) rfl (fun ls hl => ?_)
  exact (ih.2.1) _ _ _ _ _ _ _ _ _ _ _ h hg hP hD hS (lv_sub hl [1, 2, 3, 4, 5, 6, 7, 8, 0] rfl)
set_option maxHeartbeats 4000000 in
set_option maxRecDepth 100000 in
theorem bMp_writeTo_47 {p : Program} {l : Launch} {e : Env} {s : State} {m : MethodId} {below : List Frame} {meth : Method} {c : Code} {A : Nat → Prop} {D : va_G} {K : Nat → ClassId} {h0 : Nat} {a0 : Nat → Nat} {h1 : Nat} {h2 : Nat} {a2 : Nat → Nat} {h3 : Nat} {a3 : Nat → Nat} {h4 : Nat} {a4 : Nat → Nat} {h5 : Nat} {os : cf_O} {AR : Array Value} (C : (dc_C p s m AR meth c cMp_writeTo 10 (Option.none : Option Jvm.ClassFile.FieldType) yMp_writeTo ∧ cf_E D K A s s.heap ∧ ∀ q, s.heap.size ≤ q → A q)) {n : Nat} (ih : IhMp_writeTo p l e s m below meth c A D K h0 a0 h1 h2 a2 h3 a3 h4 a4 h5 os AR n) (v5 : Int32) (v6 : Int64) (v8 : Int32) (o0 : cf_O) (o1 : cf_O) (o2 : cf_O) (o3 : cf_O) (o4 : cf_O) (o5 : cf_O) (r : cf_O × cf_O) (h : fMp_writeTo_47 (gMp_writeTo n) v5 v6 v8 o0 o1 o2 o3 o4 o5 = some r) {a5 : Nat → Nat} {H : Heap} {locs : List Loc} {ls : Array Slot} (hg : phSB os ≤ phSB o5) (hP : va_P D vwCl (wMp K h0 a0 o0 ++ wSc K h1 (fun _ => h5) o1 ++ wNl K h2 a2 o2 ++ wGr K h3 a3 o3 ++ wLi K h4 a4 o4 ++ wSB K h5 a5 o5) H) (hD : va_D A (wMp K h0 a0 o0 ++ wSc K h1 (fun _ => h5) o1 ++ wNl K h2 a2 o2 ++ wGr K h3 a3 o3 ++ wLi K h4 a4 o4 ++ wSB K h5 a5 o5)) (hS : va_S A s.heap H locs) (hl : lv_has ls 10 [(0, .ref h0), (1, .ref h1), (2, .ref h2), (3, .ref h3), (4, .ref h4), (5, .int v5), (6, .long v6), (8, .int v8)]) : W p l e ({ frames := 9, cells := (gC (phSB os) (phSB r.2)), slots := (gS (phSB os) (phSB r.2)), locals := 238 }) s m AR below meth c H locs (gC (phSB os) (phSB o5)) (gS (phSB os) (phSB o5)) (MQ below (va_Qv (fun (_ : Nat → Nat) => True) (fun (u : Nat → Nat) t => cf_At D A (wMp K h0 a0 o0 ++ wSc K h1 (fun _ => h5) r.1 ++ wNl K h2 a2 o2 ++ wGr K h3 a3 o3 ++ wLi K h4 a4 o4 ++ wSB K h5 u r.2) t) A) AR s (gC (phSB os) (phSB r.2)) (gS (phSB os) (phSB r.2)) A) (F0 m 47 ls [.ref h5]) := by
  obtain ⟨⟨hx, hb, hr, hts, hown, hlocks, hin, hml⟩, hE, hA⟩ := id C
  have hK := hE.k
  refine lv_pop hx hb dMp_writeTo_47 rfl ?_
  refine lv_aload_n hx hb dMp_writeTo_48 rfl (lv_at hl 1 rfl) ?_
  refine lv_aload hx hb dMp_writeTo_49 (lv_at hl 4 rfl) ?_
  refine va_get (D := D) (ci := 11) (v := .ref (a4 2)) (C := RLi) (T := TLi) (N := 12) hx hb hts inLi hown hK hP 26 rfl rfl 2 (by decide) (hts _ wv_615) (fun _ h9 => h9) rfl dMp_writeTo_51 ?_
  refine lv_iload hx hb dMp_writeTo_54 (lv_at hl 7 rfl) ?_
  obtain ⟨hi_1, h⟩ := op_n h
  refine va_lald (D := D) hx hb hK hP 27 1 rfl rfl hi_1 dMp_writeTo_56 ?_
  refine lv_topl (fun x_2 ex_2 => ?_)
  have h := op_ks ex_2 h
  obtain ⟨q_3, hq_3, h⟩ := op_b h
  have hgr_4 : phSB q_3 ≤ phSB r.2 := nMp_writeTo_60 (niMp_writeTo n) _ _ _ _ _ _ _ _ _ _ h
  have hg2_5 : phSB o5 ≤ phSB q_3 := nSc_writeName _ _ _ _ hq_3
  refine cf_callv (wc := wSc K h1 (fun _ => h5) o1 ++ wSB K h5 a5 o5) (wr := wMp K h0 a0 o0 ++ wNl K h2 a2 o2 ++ wGr K h3 a3 o3 ++ wLi K h4 a4 o4) (va_runV (As := [.long x_2]) (rest := []) ⟨hx, hb, hml, hown, hts⟩ (mSc_writeName l D K _ x_2 h1 h5 a5 o1 o5 _ hq_3) (cwV 1 hts (cf_GV wv_1964 wv_1795 wv_1796 wv_165 wv_1797) rfl rfl rfl (by decide +kernel) ⟨Nat.le_of_ble_eq_true rfl, Nat.le_of_ble_eq_true rfl⟩) (cf_preV (wc := wSc K h1 (fun _ => h5) o1 ++ wSB K h5 a5 o5) hE hP hD hS hA rfl 5 rfl [5, 36, 37] rfl (by decide +kernel)) rfl rfl hl.1 rfl (lv_room (Nat.le_of_ble_eq_true rfl)) dMp_writeTo_57 ⟨Nat.le_trans (gC_add hg hg2_5) (gC_le hgr_4), Nat.le_trans (gS_add hg hg2_5) (gS_le hgr_4)⟩) hP hD hS hA [5, 36, 37] [0, 1, 2, 3, 4, 6, 7, 8, 9, 10, 11, 12, 13, 14, 15, 16, 17, 18, 19, 20, 21, 22, 23, 24, 25, 26, 27, 28, 29, 30, 31, 32, 33, 34, 35] rfl rfl (by decide +kernel) (by decide +kernel) (fun a5_7 H locs hw_6 hP hD hS => ?_)
  have hP : va_P D vwCl (wMp K h0 a0 o0 ++ wSc K h1 (fun _ => h5) o1 ++ wNl K h2 a2 o2 ++ wGr K h3 a3 o3 ++ wLi K h4 a4 o4 ++ wSB K h5 a5_7 q_3) H := hP.sub [0, 1, 2, 3, 4, 35, 5, 6, 7, 8, 9, 10, 11, 12, 13, 14, 15, 16, 17, 18, 19, 20, 21, 22, 23, 24, 25, 26, 27, 28, 29, 30, 31, 32, 33, 34, 36, 37] rfl
  have hD : va_D A (wMp K h0 a0 o0 ++ wSc K h1 (fun _ => h5) o1 ++ wNl K h2 a2 o2 ++ wGr K h3 a3 o3 ++ wLi K h4 a4 o4 ++ wSB K h5 a5_7 q_3) := hD.sub [0, 1, 2, 3, 4, 35, 5, 6, 7, 8, 9, 10, 11, 12, 13, 14, 15, 16, 17, 18, 19, 20, 21, 22, 23, 24, 25, 26, 27, 28, 29, 30, 31, 32, 33, 34, 36, 37] (by decide +kernel) rfl
  refine W.widen (k := (gC (phSB os) (phSB q_3))) (n := (gS (phSB os) (phSB q_3))) (gC_add hg hg2_5) (gS_add hg hg2_5) ?_
  have hg : phSB os ≤ phSB q_3 := Nat.le_trans hg hg2_5
  exact bMp_writeTo_60 C ih _ _ _ _ _ _ _ _ _ _ h hg hP hD hS (lv_sub hl [0, 1, 2, 3, 4, 5, 6, 7] rfl)
set_option maxHeartbeats 4000000 in
set_option maxRecDepth 100000 in
theorem bMp_writeTo_36 {p : Program} {l : Launch} {e : Env} {s : State} {m : MethodId} {below : List Frame} {meth : Method} {c : Code} {A : Nat → Prop} {D : va_G} {K : Nat → ClassId} {h0 : Nat} {a0 : Nat → Nat} {h1 : Nat} {h2 : Nat} {a2 : Nat → Nat} {h3 : Nat} {a3 : Nat → Nat} {h4 : Nat} {a4 : Nat → Nat} {h5 : Nat} {os : cf_O} {AR : Array Value} (C : (dc_C p s m AR meth c cMp_writeTo 10 (Option.none : Option Jvm.ClassFile.FieldType) yMp_writeTo ∧ cf_E D K A s s.heap ∧ ∀ q, s.heap.size ≤ q → A q)) {n : Nat} (ih : IhMp_writeTo p l e s m below meth c A D K h0 a0 h1 h2 a2 h3 a3 h4 a4 h5 os AR n) (v5 : Int32) (v6 : Int64) (s0 : Int32) (o0 : cf_O) (o1 : cf_O) (o2 : cf_O) (o3 : cf_O) (o4 : cf_O) (o5 : cf_O) (r : cf_O × cf_O) (h : fMp_writeTo_36 (gMp_writeTo n) v5 v6 s0 o0 o1 o2 o3 o4 o5 = some r) {a5 : Nat → Nat} {H : Heap} {locs : List Loc} {ls : Array Slot} (hg : phSB os ≤ phSB o5) (hP : va_P D vwCl (wMp K h0 a0 o0 ++ wSc K h1 (fun _ => h5) o1 ++ wNl K h2 a2 o2 ++ wGr K h3 a3 o3 ++ wLi K h4 a4 o4 ++ wSB K h5 a5 o5) H) (hD : va_D A (wMp K h0 a0 o0 ++ wSc K h1 (fun _ => h5) o1 ++ wNl K h2 a2 o2 ++ wGr K h3 a3 o3 ++ wLi K h4 a4 o4 ++ wSB K h5 a5 o5)) (hS : va_S A s.heap H locs) (hl : lv_has ls 10 [(0, .ref h0), (1, .ref h1), (2, .ref h2), (3, .ref h3), (4, .ref h4), (5, .int v5), (6, .long v6)]) : W p l e ({ frames := 9, cells := (gC (phSB os) (phSB r.2)), slots := (gS (phSB os) (phSB r.2)), locals := 238 }) s m AR below meth c H locs (gC (phSB os) (phSB o5)) (gS (phSB os) (phSB o5)) (MQ below (va_Qv (fun (_ : Nat → Nat) => True) (fun (u : Nat → Nat) t => cf_At D A (wMp K h0 a0 o0 ++ wSc K h1 (fun _ => h5) r.1 ++ wNl K h2 a2 o2 ++ wGr K h3 a3 o3 ++ wLi K h4 a4 o4 ++ wSB K h5 u r.2) t) A) AR s (gC (phSB os) (phSB r.2)) (gS (phSB os) (phSB r.2)) A) (F0 m 36 ls [.int s0]) := by
  obtain ⟨⟨hx, hb, hr, hts, hown, hlocks, hin, hml⟩, hE, hA⟩ := id C
  have hK := hE.k
  refine lv_istore (lv' := [(8, .int s0), (0, .ref h0), (1, .ref h1), (2, .ref h2), (3, .ref h3), (4, .ref h4), (5, .int v5), (6, .long v6)]) hx hb dMp_writeTo_36 hl (by decide) rfl (fun ls hl => ?_)
  refine lv_aload_n hx hb dMp_writeTo_38 rfl (lv_at hl 2 rfl) ?_
  refine va_get (D := D) (ci := 10) (v := .ref h5) (C := RSc) (T := TSc) (N := 2) hx hb hts inSc hown hK hP 5 rfl rfl 1 (by decide) (hts _ wv_471) (fun _ h9 => h9) rfl dMp_writeTo_39 ?_
  refine va_ldcS hx hb hown (hE.s 17 rfl).1 dMp_writeTo_42 ?_
  obtain ⟨q_1, hq_1, h⟩ := op_b h
  have hgr_2 : phSB q_1 ≤ phSB r.2 := nMp_writeTo_47 (niMp_writeTo n) _ _ _ _ _ _ _ _ _ _ h
  have hg2_3 : phSB o5 ≤ phSB q_1 := nSB_appendS_S17 _ _ hq_1
  refine cf_callR (wc := wSB K h5 a5 o5) (wr := wMp K h0 a0 o0 ++ wSc K h1 (fun _ => h5) o1 ++ wNl K h2 a2 o2 ++ wGr K h3 a3 o3 ++ wLi K h4 a4 o4) (va_runV (As := [.ref (K 117)]) (rest := []) ⟨hx, hb, hml, hown, hts⟩ (mSB_appendS_S17 l D K _ h5 a5 o5 _ hq_1) (cwV 1 hts (cf_GV wv_1963 wv_1555 wv_1556 wv_167 wv_1557) rfl rfl rfl (by decide +kernel) ⟨Nat.le_of_ble_eq_true rfl, Nat.le_of_ble_eq_true rfl⟩) (cf_preV (wc := wSB K h5 a5 o5) hE hP hD hS hA rfl 36 rfl [36, 37] rfl (by decide +kernel)) rfl rfl hl.1 rfl (lv_room (Nat.le_of_ble_eq_true rfl)) dMp_writeTo_44 ⟨Nat.le_trans (gC_add hg hg2_3) (gC_le hgr_2), Nat.le_trans (gS_add hg hg2_3) (gS_le hgr_2)⟩) hP hD hS hA [36, 37] [0, 1, 2, 3, 4, 5, 6, 7, 8, 9, 10, 11, 12, 13, 14, 15, 16, 17, 18, 19, 20, 21, 22, 23, 24, 25, 26, 27, 28, 29, 30, 31, 32, 33, 34, 35] rfl rfl (by decide +kernel) (by decide +kernel) (fun a5_5 H locs hw_4 hP hD hS => ?_)
  have hP : va_P D vwCl (wMp K h0 a0 o0 ++ wSc K h1 (fun _ => h5) o1 ++ wNl K h2 a2 o2 ++ wGr K h3 a3 o3 ++ wLi K h4 a4 o4 ++ wSB K h5 a5_5 q_1) H := hP.sub [0, 1, 2, 3, 4, 5, 6, 7, 8, 9, 10, 11, 12, 13, 14, 15, 16, 17, 18, 19, 20, 21, 22, 23, 24, 25, 26, 27, 28, 29, 30, 31, 32, 33, 34, 35, 36, 37] rfl
  have hD : va_D A (wMp K h0 a0 o0 ++ wSc K h1 (fun _ => h5) o1 ++ wNl K h2 a2 o2 ++ wGr K h3 a3 o3 ++ wLi K h4 a4 o4 ++ wSB K h5 a5_5 q_1) := hD.sub [0, 1, 2, 3, 4, 5, 6, 7, 8, 9, 10, 11, 12, 13, 14, 15, 16, 17, 18, 19, 20, 21, 22, 23, 24, 25, 26, 27, 28, 29, 30, 31, 32, 33, 34, 35, 36, 37] (by decide +kernel) rfl
  refine W.widen (k := (gC (phSB os) (phSB q_1))) (n := (gS (phSB os) (phSB q_1))) (gC_add hg hg2_3) (gS_add hg hg2_3) ?_
  have hg : phSB os ≤ phSB q_1 := Nat.le_trans hg hg2_3
  exact bMp_writeTo_47 C ih _ _ _ _ _ _ _ _ _ _ h hg hP hD hS (lv_sub hl [1, 2, 3, 4, 5, 6, 7, 0] rfl)
set_option maxHeartbeats 4000000 in
set_option maxRecDepth 100000 in
theorem bMp_writeTo_8 {p : Program} {l : Launch} {e : Env} {s : State} {m : MethodId} {below : List Frame} {meth : Method} {c : Code} {A : Nat → Prop} {D : va_G} {K : Nat → ClassId} {h0 : Nat} {a0 : Nat → Nat} {h1 : Nat} {h2 : Nat} {a2 : Nat → Nat} {h3 : Nat} {a3 : Nat → Nat} {h4 : Nat} {a4 : Nat → Nat} {h5 : Nat} {os : cf_O} {AR : Array Value} (C : (dc_C p s m AR meth c cMp_writeTo 10 (Option.none : Option Jvm.ClassFile.FieldType) yMp_writeTo ∧ cf_E D K A s s.heap ∧ ∀ q, s.heap.size ≤ q → A q)) {n : Nat} (ih : IhMp_writeTo p l e s m below meth c A D K h0 a0 h1 h2 a2 h3 a3 h4 a4 h5 os AR n) (v5 : Int32) (o0 : cf_O) (o1 : cf_O) (o2 : cf_O) (o3 : cf_O) (o4 : cf_O) (o5 : cf_O) (r : cf_O × cf_O) (h : fMp_writeTo_8 (gMp_writeTo n) v5 o0 o1 o2 o3 o4 o5 = some r) {a5 : Nat → Nat} {H : Heap} {locs : List Loc} {ls : Array Slot} (hg : phSB os ≤ phSB o5) (hP : va_P D vwCl (wMp K h0 a0 o0 ++ wSc K h1 (fun _ => h5) o1 ++ wNl K h2 a2 o2 ++ wGr K h3 a3 o3 ++ wLi K h4 a4 o4 ++ wSB K h5 a5 o5) H) (hD : va_D A (wMp K h0 a0 o0 ++ wSc K h1 (fun _ => h5) o1 ++ wNl K h2 a2 o2 ++ wGr K h3 a3 o3 ++ wLi K h4 a4 o4 ++ wSB K h5 a5 o5)) (hS : va_S A s.heap H locs) (hl : lv_has ls 10 [(0, .ref h0), (1, .ref h1), (2, .ref h2), (3, .ref h3), (4, .ref h4), (5, .int v5)]) : W p l e ({ frames := 9, cells := (gC (phSB os) (phSB r.2)), slots := (gS (phSB os) (phSB r.2)), locals := 238 }) s m AR below meth c H locs (gC (phSB os) (phSB o5)) (gS (phSB os) (phSB o5)) (MQ below (va_Qv (fun (_ : Nat → Nat) => True) (fun (u : Nat → Nat) t => cf_At D A (wMp K h0 a0 o0 ++ wSc K h1 (fun _ => h5) r.1 ++ wNl K h2 a2 o2 ++ wGr K h3 a3 o3 ++ wLi K h4 a4 o4 ++ wSB K h5 u r.2) t) A) AR s (gC (phSB os) (phSB r.2)) (gS (phSB os) (phSB r.2)) A) (F0 m 8 ls []) := by
  obtain ⟨⟨hx, hb, hr, hts, hown, hlocks, hin, hml⟩, hE, hA⟩ := id C
  have hK := hE.k
  refine lv_iload hx hb dMp_writeTo_8 (lv_at hl 5 rfl) ?_
  refine lv_aload_n hx hb dMp_writeTo_10 rfl (lv_at hl 0 rfl) ?_
  refine va_get (D := D) (ci := 9) (v := .int (o0.1 0)) (C := RMp) (T := TMp) (N := 7) hx hb hts inMp hown hK hP 0 rfl rfl 0 (by decide) (hts _ wv_402) (fun _ h9 => h9) rfl dMp_writeTo_11 ?_
  refine lv_icmp_ge (tgt := 122) hx hb dMp_writeTo_14 (by decide) (fun c_1 => ?_) (fun c_1 => ?_)
  · have h := op_t c_1 h
    refine lv_iconst (v := 0) hx hb dMp_writeTo_122 (by decide) ?_
    refine lv_istore (lv' := [(5, .int 0), (0, .ref h0), (1, .ref h1), (2, .ref h2), (3, .ref h3), (4, .ref h4)]) hx hb dMp_writeTo_123 hl (by decide) rfl (fun ls hl => ?_)
    exact (ih.2.2) _ _ _ _ _ _ _ _ h hg hP hD hS (lv_sub hl [2, 3, 4, 0] rfl)
  · have h := op_f c_1 h
    refine lv_aload_n hx hb dMp_writeTo_17 rfl (lv_at hl 0 rfl) ?_
    refine va_get (D := D) (ci := 9) (v := .ref (a0 4)) (C := RMp) (T := TMp) (N := 7) hx hb hts inMp hown hK hP 0 rfl rfl 4 (by decide) (hts _ wv_410) (fun _ h9 => h9) rfl dMp_writeTo_18 ?_
    refine lv_aload_n hx hb dMp_writeTo_21 rfl (lv_at hl 0 rfl) ?_
    refine va_get (D := D) (ci := 9) (v := .ref (a0 3)) (C := RMp) (T := TMp) (N := 7) hx hb hts inMp hown hK hP 0 rfl rfl 3 (by decide) (hts _ wv_408) (fun _ h9 => h9) rfl dMp_writeTo_22 ?_
    refine lv_iload hx hb dMp_writeTo_25 (lv_at hl 5 rfl) ?_
    obtain ⟨hi_2, h⟩ := op_n h
    refine va_iald (D := D) hx hb hK hP 1 0 rfl rfl hi_2 dMp_writeTo_27 ?_
    refine lv_topi (fun x_3 ex_3 => ?_)
    have h := op_ks ex_3 h
    obtain ⟨hi_4, h⟩ := op_n h
    refine va_lald (D := D) hx hb hK hP 2 1 rfl rfl hi_4 dMp_writeTo_28 ?_
    refine lv_topl (fun x_5 ex_5 => ?_)
    have h := op_ks ex_5 h
    refine lv_lstore (lv' := [(6, .long x_5), (0, .ref h0), (1, .ref h1), (2, .ref h2), (3, .ref h3), (4, .ref h4), (5, .int v5)]) hx hb dMp_writeTo_29 hl (by decide) rfl (fun ls hl => ?_)
    refine lv_lload hx hb dMp_writeTo_31 (lv_at hl 0 rfl) ?_
    obtain ⟨q_6, hq_6, h⟩ := op_b h
    have hgr_7 : phSB o5 ≤ phSB r.2 := nMp_writeTo_36 (niMp_writeTo n) _ _ _ _ _ _ _ _ _ _ h
    refine cf_pcalli (va_runS (As := [.long x_5]) (rest := []) ⟨hx, hb, hml, hown, hts⟩ (mMp_cellOf l x_5 _ hq_6) (va_cwS 1 hts (cf_GS wv_1921 wv_1922 wv_164 wv_1923) rfl rfl rfl (by decide +kernel) ⟨Nat.le_of_ble_eq_true rfl, Nat.le_of_ble_eq_true rfl⟩) preEq rfl rfl hl.1 rfl (lv_room (Nat.le_of_ble_eq_true rfl)) dMp_writeTo_33 ⟨gC_le hgr_7, gS_le hgr_7⟩) (fun r_9 hw_10 => ?_)
    subst r_9
    refine W.widen (k := (gC (phSB os) (phSB o5))) (n := (gS (phSB os) (phSB o5))) (Nat.le_refl _) (Nat.le_refl _) ?_
    exact bMp_writeTo_36 C ih _ _ _ _ _ _ _ _ _ _ h hg hP hD hS (lv_sub hl [1, 2, 3, 4, 5, 6, 0] rfl)
set_option maxHeartbeats 4000000 in
set_option maxRecDepth 100000 in
theorem bMp_writeTo_5 {p : Program} {l : Launch} {e : Env} {s : State} {m : MethodId} {below : List Frame} {meth : Method} {c : Code} {A : Nat → Prop} {D : va_G} {K : Nat → ClassId} {h0 : Nat} {a0 : Nat → Nat} {h1 : Nat} {h2 : Nat} {a2 : Nat → Nat} {h3 : Nat} {a3 : Nat → Nat} {h4 : Nat} {a4 : Nat → Nat} {h5 : Nat} {os : cf_O} {AR : Array Value} (C : (dc_C p s m AR meth c cMp_writeTo 10 (Option.none : Option Jvm.ClassFile.FieldType) yMp_writeTo ∧ cf_E D K A s s.heap ∧ ∀ q, s.heap.size ≤ q → A q)) {n : Nat} (ih : IhMp_writeTo p l e s m below meth c A D K h0 a0 h1 h2 a2 h3 a3 h4 a4 h5 os AR n) (o0 : cf_O) (o1 : cf_O) (o2 : cf_O) (o3 : cf_O) (o4 : cf_O) (o5 : cf_O) (r : cf_O × cf_O) (h : fMp_writeTo_5 (gMp_writeTo n) o0 o1 o2 o3 o4 o5 = some r) {a5 : Nat → Nat} {H : Heap} {locs : List Loc} {ls : Array Slot} (hg : phSB os ≤ phSB o5) (hP : va_P D vwCl (wMp K h0 a0 o0 ++ wSc K h1 (fun _ => h5) o1 ++ wNl K h2 a2 o2 ++ wGr K h3 a3 o3 ++ wLi K h4 a4 o4 ++ wSB K h5 a5 o5) H) (hD : va_D A (wMp K h0 a0 o0 ++ wSc K h1 (fun _ => h5) o1 ++ wNl K h2 a2 o2 ++ wGr K h3 a3 o3 ++ wLi K h4 a4 o4 ++ wSB K h5 a5 o5)) (hS : va_S A s.heap H locs) (hl : lv_has ls 10 [(0, .ref h0), (1, .ref h1), (2, .ref h2), (3, .ref h3), (4, .ref h4)]) : W p l e ({ frames := 9, cells := (gC (phSB os) (phSB r.2)), slots := (gS (phSB os) (phSB r.2)), locals := 238 }) s m AR below meth c H locs (gC (phSB os) (phSB o5)) (gS (phSB os) (phSB o5)) (MQ below (va_Qv (fun (_ : Nat → Nat) => True) (fun (u : Nat → Nat) t => cf_At D A (wMp K h0 a0 o0 ++ wSc K h1 (fun _ => h5) r.1 ++ wNl K h2 a2 o2 ++ wGr K h3 a3 o3 ++ wLi K h4 a4 o4 ++ wSB K h5 u r.2) t) A) AR s (gC (phSB os) (phSB r.2)) (gS (phSB os) (phSB r.2)) A) (F0 m 5 ls []) := by
  obtain ⟨⟨hx, hb, hr, hts, hown, hlocks, hin, hml⟩, hE, hA⟩ := id C
  have hK := hE.k
  refine lv_iconst (v := 0) hx hb dMp_writeTo_5 (by decide) ?_
  refine lv_istore (lv' := [(5, .int 0), (0, .ref h0), (1, .ref h1), (2, .ref h2), (3, .ref h3), (4, .ref h4)]) hx hb dMp_writeTo_6 hl (by decide) rfl (fun ls hl => ?_)
  exact (ih.1) _ _ _ _ _ _ _ _ h hg hP hD hS (lv_sub hl [1, 2, 3, 4, 5, 0] rfl)
set_option maxHeartbeats 4000000 in
set_option maxRecDepth 100000 in
theorem bMp_writeTo_0 {p : Program} {l : Launch} {e : Env} {s : State} {m : MethodId} {below : List Frame} {meth : Method} {c : Code} {A : Nat → Prop} {D : va_G} {K : Nat → ClassId} {h0 : Nat} {a0 : Nat → Nat} {h1 : Nat} {h2 : Nat} {a2 : Nat → Nat} {h3 : Nat} {a3 : Nat → Nat} {h4 : Nat} {a4 : Nat → Nat} {h5 : Nat} {os : cf_O} {AR : Array Value} (C : (dc_C p s m AR meth c cMp_writeTo 10 (Option.none : Option Jvm.ClassFile.FieldType) yMp_writeTo ∧ cf_E D K A s s.heap ∧ ∀ q, s.heap.size ≤ q → A q)) {n : Nat} (ih : IhMp_writeTo p l e s m below meth c A D K h0 a0 h1 h2 a2 h3 a3 h4 a4 h5 os AR n) (o0 : cf_O) (o1 : cf_O) (o2 : cf_O) (o3 : cf_O) (o4 : cf_O) (o5 : cf_O) (r : cf_O × cf_O) (h : fMp_writeTo_0 (gMp_writeTo n) o0 o1 o2 o3 o4 o5 = some r) {a5 : Nat → Nat} {H : Heap} {locs : List Loc} {ls : Array Slot} (hg : phSB os ≤ phSB o5) (hP : va_P D vwCl (wMp K h0 a0 o0 ++ wSc K h1 (fun _ => h5) o1 ++ wNl K h2 a2 o2 ++ wGr K h3 a3 o3 ++ wLi K h4 a4 o4 ++ wSB K h5 a5 o5) H) (hD : va_D A (wMp K h0 a0 o0 ++ wSc K h1 (fun _ => h5) o1 ++ wNl K h2 a2 o2 ++ wGr K h3 a3 o3 ++ wLi K h4 a4 o4 ++ wSB K h5 a5 o5)) (hS : va_S A s.heap H locs) (hl : lv_has ls 10 [(0, .ref h0), (1, .ref h1), (2, .ref h2), (3, .ref h3), (4, .ref h4)]) : W p l e ({ frames := 9, cells := (gC (phSB os) (phSB r.2)), slots := (gS (phSB os) (phSB r.2)), locals := 238 }) s m AR below meth c H locs (gC (phSB os) (phSB o5)) (gS (phSB os) (phSB o5)) (MQ below (va_Qv (fun (_ : Nat → Nat) => True) (fun (u : Nat → Nat) t => cf_At D A (wMp K h0 a0 o0 ++ wSc K h1 (fun _ => h5) r.1 ++ wNl K h2 a2 o2 ++ wGr K h3 a3 o3 ++ wLi K h4 a4 o4 ++ wSB K h5 u r.2) t) A) AR s (gC (phSB os) (phSB r.2)) (gS (phSB os) (phSB r.2)) A) (F0 m 0 ls []) := by
  obtain ⟨⟨hx, hb, hr, hts, hown, hlocks, hin, hml⟩, hE, hA⟩ := id C
  have hK := hE.k
  refine lv_aload_n hx hb dMp_writeTo_0 rfl (lv_at hl 1 rfl) ?_
  refine lv_aload_n hx hb dMp_writeTo_1 rfl (lv_at hl 2 rfl) ?_
  obtain ⟨q_1, hq_1, h⟩ := op_b h
  have hgr_2 : phSB q_1 ≤ phSB r.2 := nMp_writeTo_5 (niMp_writeTo n) _ _ _ _ _ _ _ h
  have hg2_3 : phSB o5 ≤ phSB q_1 := nSc_writeHead _ _ _ _ hq_1
  refine cf_callv (wc := wSc K h1 (fun _ => h5) o1 ++ wNl K h2 a2 o2 ++ wSB K h5 a5 o5) (wr := wMp K h0 a0 o0 ++ wGr K h3 a3 o3 ++ wLi K h4 a4 o4) (va_runV (As := [.ref h2]) (rest := []) ⟨hx, hb, hml, hown, hts⟩ (mSc_writeHead l D K _ h1 h2 a2 h5 a5 o1 o2 o5 _ hq_1) (cwV 1 hts (cf_GV wv_1961 wv_1536 wv_1537 wv_165 wv_1538) rfl rfl rfl (by decide +kernel) ⟨Nat.le_of_ble_eq_true rfl, Nat.le_of_ble_eq_true rfl⟩) (cf_preV (wc := wSc K h1 (fun _ => h5) o1 ++ wNl K h2 a2 o2 ++ wSB K h5 a5 o5) hE hP hD hS hA rfl 5 rfl [5, 6, 7, 8, 9, 10, 11, 12, 13, 14, 15, 16, 17, 18, 36, 37] rfl (by decide +kernel)) rfl rfl hl.1 rfl (lv_room (Nat.le_of_ble_eq_true rfl)) dMp_writeTo_2 ⟨Nat.le_trans (gC_add hg hg2_3) (gC_le hgr_2), Nat.le_trans (gS_add hg hg2_3) (gS_le hgr_2)⟩) hP hD hS hA [5, 6, 7, 8, 9, 10, 11, 12, 13, 14, 15, 16, 17, 18, 36, 37] [0, 1, 2, 3, 4, 19, 20, 21, 22, 23, 24, 25, 26, 27, 28, 29, 30, 31, 32, 33, 34, 35] rfl rfl (by decide +kernel) (by decide +kernel) (fun a5_5 H locs hw_4 hP hD hS => ?_)
  have hP : va_P D vwCl (wMp K h0 a0 o0 ++ wSc K h1 (fun _ => h5) o1 ++ wNl K h2 a2 o2 ++ wGr K h3 a3 o3 ++ wLi K h4 a4 o4 ++ wSB K h5 a5_5 q_1) H := hP.sub [0, 1, 2, 3, 4, 22, 23, 24, 25, 26, 27, 28, 29, 30, 31, 32, 33, 34, 35, 5, 6, 7, 8, 9, 10, 11, 12, 13, 14, 15, 16, 17, 18, 19, 20, 21, 36, 37] rfl
  have hD : va_D A (wMp K h0 a0 o0 ++ wSc K h1 (fun _ => h5) o1 ++ wNl K h2 a2 o2 ++ wGr K h3 a3 o3 ++ wLi K h4 a4 o4 ++ wSB K h5 a5_5 q_1) := hD.sub [0, 1, 2, 3, 4, 22, 23, 24, 25, 26, 27, 28, 29, 30, 31, 32, 33, 34, 35, 5, 6, 7, 8, 9, 10, 11, 12, 13, 14, 15, 16, 17, 18, 19, 20, 21, 36, 37] (by decide +kernel) rfl
  refine W.widen (k := (gC (phSB os) (phSB q_1))) (n := (gS (phSB os) (phSB q_1))) (gC_add hg hg2_3) (gS_add hg hg2_3) ?_
  have hg : phSB os ≤ phSB q_1 := Nat.le_trans hg hg2_3
  exact bMp_writeTo_5 C ih _ _ _ _ _ _ _ h hg hP hD hS (lv_sub hl [0, 1, 2, 3, 4] rfl)
theorem iMp_writeTo {p : Program} {l : Launch} {e : Env} {s : State} {m : MethodId} {below : List Frame} {meth : Method} {c : Code} {A : Nat → Prop} {D : va_G} {K : Nat → ClassId} {h0 : Nat} {a0 : Nat → Nat} {h1 : Nat} {h2 : Nat} {a2 : Nat → Nat} {h3 : Nat} {a3 : Nat → Nat} {h4 : Nat} {a4 : Nat → Nat} {h5 : Nat} {os : cf_O} {AR : Array Value} (C : (dc_C p s m AR meth c cMp_writeTo 10 (Option.none : Option Jvm.ClassFile.FieldType) yMp_writeTo ∧ cf_E D K A s s.heap ∧ ∀ q, s.heap.size ≤ q → A q)) : ∀ n, IhMp_writeTo p l e s m below meth c A D K h0 a0 h1 h2 a2 h3 a3 h4 a4 h5 os AR n := by
  intro n
  induction n with
  | zero => exact ⟨(fun _ _ _ _ _ _ _ r h => by cases (show none = some r from h)), (fun _ _ _ _ _ _ _ _ _ _ r h => by cases (show none = some r from h)), (fun _ _ _ _ _ _ _ r h => by cases (show none = some r from h))⟩
  | succ n ih => exact ⟨fun x0 x1 x2 x3 x4 x5 x6 r h _ _ _ _ hg hP hD hS hl => bMp_writeTo_8 C ih x0 x1 x2 x3 x4 x5 x6 r h hg hP hD hS hl, fun x0 x1 x2 x3 x4 x5 x6 x7 x8 x9 r h _ _ _ _ hg hP hD hS hl => bMp_writeTo_63 C ih x0 x1 x2 x3 x4 x5 x6 x7 x8 x9 r h hg hP hD hS hl, fun x0 x1 x2 x3 x4 x5 x6 r h _ _ _ _ hg hP hD hS hl => bMp_writeTo_125 C ih x0 x1 x2 x3 x4 x5 x6 r h hg hP hD hS hl⟩
set_option maxRecDepth 100000 in
theorem mMp_writeTo (l : Launch) (D : va_G) (K : Nat → ClassId) (sz : Nat) (h0 : Nat) (a0 : Nat → Nat) (h1 : Nat) (h2 : Nat) (a2 : Nat → Nat) (h3 : Nat) (a3 : Nat → Nat) (h4 : Nat) (a4 : Nat → Nat) (h5 : Nat) (a5 : Nat → Nat) (o0 : cf_O) (o1 : cf_O) (o2 : cf_O) (o3 : cf_O) (o4 : cf_O) (o5 : cf_O) (r : cf_O × cf_O) (h : fMp_writeTo o0 o1 o2 o3 o4 o5 = some r) : Met l yMp_writeTo (Cond.code yMp_writeTo cMp_writeTo 10 (Option.none : Option Jvm.ClassFile.FieldType) :: cfB) ({ frames := 9, cells := (gC (phSB o5) (phSB r.2)), slots := (gS (phSB o5) (phSB r.2)), locals := 238 }) (va_Pc [.ref h0, .ref h1, .ref h2, .ref h3, .ref h4] (cf_Pre D K sz (wMp K h0 a0 o0 ++ wSc K h1 (fun _ => h5) o1 ++ wNl K h2 a2 o2 ++ wGr K h3 a3 o3 ++ wLi K h4 a4 o4 ++ wSB K h5 a5 o5))) (va_Qv (fun (_ : Nat → Nat) => True) (fun (u : Nat → Nat) t => cf_At D (va_A (wMp K h0 a0 o0 ++ wSc K h1 (fun _ => h5) o1 ++ wNl K h2 a2 o2 ++ wGr K h3 a3 o3 ++ wLi K h4 a4 o4 ++ wSB K h5 a5 o5) sz) (wMp K h0 a0 o0 ++ wSc K h1 (fun _ => h5) r.1 ++ wNl K h2 a2 o2 ++ wGr K h3 a3 o3 ++ wLi K h4 a4 o4 ++ wSB K h5 u r.2) t) (va_A (wMp K h0 a0 o0 ++ wSc K h1 (fun _ => h5) o1 ++ wNl K h2 a2 o2 ++ wGr K h3 a3 o3 ++ wLi K h4 a4 o4 ++ wSB K h5 a5 o5) sz)) (gC (phSB o5) (phSB r.2)) (gS (phSB o5) (phSB r.2)) (va_A (wMp K h0 a0 o0 ++ wSc K h1 (fun _ => h5) o1 ++ wNl K h2 a2 o2 ++ wGr K h3 a3 o3 ++ wLi K h4 a4 o4 ++ wSB K h5 a5 o5) sz) := by
  refine cf_ofW (y := yMp_writeTo) (As := [.ref h0, .ref h1, .ref h2, .ref h3, .ref h4]) (WS := wMp K h0 a0 o0 ++ wSc K h1 (fun _ => h5) o1 ++ wNl K h2 a2 o2 ++ wGr K h3 a3 o3 ++ wLi K h4 a4 o4 ++ wSB K h5 a5 o5) (maxL := 10) (fun A => (va_Qv (fun (_ : Nat → Nat) => True) (fun (u : Nat → Nat) t => cf_At D A (wMp K h0 a0 o0 ++ wSc K h1 (fun _ => h5) r.1 ++ wNl K h2 a2 o2 ++ wGr K h3 a3 o3 ++ wLi K h4 a4 o4 ++ wSB K h5 u r.2) t) A)) (by decide) (Nat.le_of_ble_eq_true rfl) ?_
  intro p e s m below meth c A ls En hsz hA hP hD hE hS hl
  have C : (dc_C p s m (([.ref h0, .ref h1, .ref h2, .ref h3, .ref h4] : List Value).toArray) meth c cMp_writeTo 10 (Option.none : Option Jvm.ClassFile.FieldType) yMp_writeTo ∧ cf_E D K A s s.heap ∧ ∀ q, s.heap.size ≤ q → A q) := ⟨En, hE, hA⟩
  refine W.widen (k := gC (phSB o5) (phSB o5)) (n := gS (phSB o5) (phSB o5)) (Nat.zero_le _) (Nat.zero_le _) ?_
  exact bMp_writeTo_0 C (iMp_writeTo C cfFU) o0 o1 o2 o3 o4 o5 r h (Nat.le_refl _) hP hD hS hl
set_option maxHeartbeats 4000000 in
set_option maxRecDepth 100000 in
theorem bJString_coder__S2_14 {p : Program} {l : Launch} {e : Env} {s : State} {m : MethodId} {below : List Frame} {meth : Method} {c : Code} {A : Nat → Prop} {D : va_G} {K : Nat → ClassId} {AR : Array Value} (C : (dc_C p s m AR meth c cJString_coder_ 1 (Option.some Jvm.ClassFile.FieldType.byte) yJString_coder_ ∧ cf_E D K A s s.heap ∧ ∀ q, s.heap.size ≤ q → A q)) (s0 : Int32) (r : Int32) (h : fJString_coder__S2_14 s0 = some r) {H : Heap} {locs : List Loc} {ls : Array Slot} (hP : va_P D vwCl ([]) H) (hD : va_D A ([])) (hS : va_S A s.heap H locs) (hl : lv_has ls 1 []) : W p l e ({ frames := 0, cells := 0, slots := 0, locals := 0 }) s m AR below meth c H locs 0 0 (MQ below (va_Qi (fun (x : Int32) (_ : Unit) => x = r) (fun (_ : Unit) t => cf_At D A ([]) t) A) AR s 0 0 A) (F0 m 14 ls [.int s0]) := by
  obtain ⟨⟨hx, hb, hr, hts, hown, hlocks, hin, hml⟩, hE, hA⟩ := id C
  have hK := hE.k
  obtain ⟨hz_1, h⟩ := op_w h
  obtain rfl := Option.some.inj h
  exact dc_zretn hx hb hr (op_nb hz_1) hlocks rfl hP hD hS dJString_coder__14
set_option maxHeartbeats 4000000 in
set_option maxRecDepth 100000 in
theorem bJString_coder__S2_0 {p : Program} {l : Launch} {e : Env} {s : State} {m : MethodId} {below : List Frame} {meth : Method} {c : Code} {A : Nat → Prop} {D : va_G} {K : Nat → ClassId} {AR : Array Value} (C : (dc_C p s m AR meth c cJString_coder_ 1 (Option.some Jvm.ClassFile.FieldType.byte) yJString_coder_ ∧ cf_E D K A s s.heap ∧ ∀ q, s.heap.size ≤ q → A q)) (r : Int32) (h : fJString_coder__S2_0 = some r) {H : Heap} {locs : List Loc} {ls : Array Slot} (hP : va_P D vwCl ([]) H) (hD : va_D A ([])) (hS : va_S A s.heap H locs) (hl : lv_has ls 1 [(0, .ref (K 102))]) : W p l e ({ frames := 0, cells := 0, slots := 0, locals := 0 }) s m AR below meth c H locs 0 0 (MQ below (va_Qi (fun (x : Int32) (_ : Unit) => x = r) (fun (_ : Unit) t => cf_At D A ([]) t) A) AR s 0 0 A) (F0 m 0 ls []) := by
  obtain ⟨⟨hx, hb, hr, hts, hown, hlocks, hin, hml⟩, hE, hA⟩ := id C
  have hK := hE.k
  refine va_gets hx hb hE.2.2.2.2.2.2.1 hS hown (hts _ wv_764) (fun _ h9 => h9) dJString_coder__0 ?_
  refine lv_if_eq (tgt := 13) hx hb dJString_coder__3 (by decide) (fun c_1 => absurd c_1 (by decide)) (fun _ => ?_)
  refine lv_aload_n hx hb dJString_coder__6 rfl (lv_at hl 0 rfl) ?_
  refine vk_getf hx hb (hE.s 2 rfl).2.2.1 hS hown (hts _ wv_1736) (fun _ h9 => h9) dJString_coder__7 ?_
  refine lv_goto (tgt := 14) hx hb dJString_coder__10 (by decide) ?_
  exact bJString_coder__S2_14 C _ _ h hP hD hS (lv_sub hl [] rfl)
set_option maxRecDepth 100000 in
theorem mJString_coder__S2 (l : Launch) (D : va_G) (K : Nat → ClassId) (sz : Nat) (r : Int32) (h : fJString_coder__S2 = some r) : Met l yJString_coder_ (Cond.code yJString_coder_ cJString_coder_ 1 (Option.some Jvm.ClassFile.FieldType.byte) :: cfB) ({ frames := 0, cells := 0, slots := 0, locals := 0 }) (va_Pc [.ref (K 102)] (cf_Pre D K sz ([]))) (va_Qi (fun (x : Int32) (_ : Unit) => x = r) (fun (_ : Unit) t => cf_At D (va_A ([]) sz) ([]) t) (va_A ([]) sz)) 0 0 (va_A ([]) sz) := by
  refine cf_ofW (y := yJString_coder_) (As := [.ref (K 102)]) (WS := []) (maxL := 1) (fun A => (va_Qi (fun (x : Int32) (_ : Unit) => x = r) (fun (_ : Unit) t => cf_At D A ([]) t) A)) (by decide) (Nat.le_of_ble_eq_true rfl) ?_
  intro p e s m below meth c A ls En hsz hA hP hD hE hS hl
  have C : (dc_C p s m (([.ref (K 102)] : List Value).toArray) meth c cJString_coder_ 1 (Option.some Jvm.ClassFile.FieldType.byte) yJString_coder_ ∧ cf_E D K A s s.heap ∧ ∀ q, s.heap.size ≤ q → A q) := ⟨En, hE, hA⟩
  exact bJString_coder__S2_0 C r h hP hD hS hl
set_option maxHeartbeats 4000000 in
set_option maxRecDepth 100000 in
theorem bJString_length__S2_0 {p : Program} {l : Launch} {e : Env} {s : State} {m : MethodId} {below : List Frame} {meth : Method} {c : Code} {A : Nat → Prop} {D : va_G} {K : Nat → ClassId} {AR : Array Value} (C : (dc_C p s m AR meth c cJString_length_ 1 (Option.some Jvm.ClassFile.FieldType.int) yJString_length_ ∧ cf_E D K A s s.heap ∧ ∀ q, s.heap.size ≤ q → A q)) (r : Int32) (h : fJString_length__S2_0 = some r) {H : Heap} {locs : List Loc} {ls : Array Slot} (hP : va_P D vwCl ([]) H) (hD : va_D A ([])) (hS : va_S A s.heap H locs) (hl : lv_has ls 1 [(0, .ref (K 102))]) : W p l e ({ frames := 1, cells := 0, slots := 0, locals := 20 }) s m AR below meth c H locs 0 0 (MQ below (va_Qi (fun (x : Int32) (_ : Unit) => x = r) (fun (_ : Unit) t => cf_At D A ([]) t) A) AR s 0 0 A) (F0 m 0 ls []) := by
  obtain ⟨⟨hx, hb, hr, hts, hown, hlocks, hin, hml⟩, hE, hA⟩ := id C
  have hK := hE.k
  refine lv_aload_n hx hb dJString_length__0 rfl (lv_at hl 0 rfl) ?_
  refine vk_getf hx hb (hE.s 2 rfl).2.2.2.1 hS hown (hts _ wv_1735) (fun _ h9 => h9) dJString_length__1 ?_
  refine va_tlen (v := 7) hx hb (hE.s 2 rfl).2.2.2.2 hS rfl dJString_length__4 ?_
  refine lv_aload_n hx hb dJString_length__5 rfl (lv_at hl 0 rfl) ?_
  obtain ⟨q_1, hq_1, h⟩ := op_b h
  refine cf_calli (wc := []) (wr := []) (va_runV (As := []) (rest := [.int 7]) ⟨hx, hb, hml, hown, hts⟩ (mJString_coder__S2 l D K _ _ hq_1) (cwV 0 hts (cf_GV wv_760 wv_761 wv_762 wv_168 wv_763) rfl rfl rfl (by decide +kernel) ⟨Nat.le_of_ble_eq_true rfl, Nat.le_of_ble_eq_true rfl⟩) (cf_preO (wc := []) (hE.s 2 rfl).2.1 hE hP hD hS hA [] rfl (by decide +kernel)) rfl rfl hl.1 rfl (lv_room (Nat.le_of_ble_eq_true rfl)) dJString_length__6 ⟨Nat.le_of_ble_eq_true rfl, Nat.le_of_ble_eq_true rfl⟩) hP hD hS hA [] [] rfl rfl (by decide +kernel) (by decide +kernel) (fun r_2 _ H locs hw_3 hP hD hS => ?_)
  subst r_2
  have hP : va_P D vwCl ([]) H := hP.sub [] rfl
  have hD : va_D A ([]) := hD.sub [] (by decide +kernel) rfl
  refine lv_ishr hx hb dJString_length__9 ?_
  refine lv_topi (fun x_4 ex_4 => ?_)
  have h := op_ks ex_4 h
  obtain rfl := Option.some.inj h
  exact dc_iret hx hb hr hlocks rfl hP hD hS dJString_length__10
set_option maxRecDepth 100000 in
theorem mJString_length__S2 (l : Launch) (D : va_G) (K : Nat → ClassId) (sz : Nat) (r : Int32) (h : fJString_length__S2 = some r) : Met l yJString_length_ (Cond.code yJString_length_ cJString_length_ 1 (Option.some Jvm.ClassFile.FieldType.int) :: cfB) ({ frames := 1, cells := 0, slots := 0, locals := 20 }) (va_Pc [.ref (K 102)] (cf_Pre D K sz ([]))) (va_Qi (fun (x : Int32) (_ : Unit) => x = r) (fun (_ : Unit) t => cf_At D (va_A ([]) sz) ([]) t) (va_A ([]) sz)) 0 0 (va_A ([]) sz) := by
  refine cf_ofW (y := yJString_length_) (As := [.ref (K 102)]) (WS := []) (maxL := 1) (fun A => (va_Qi (fun (x : Int32) (_ : Unit) => x = r) (fun (_ : Unit) t => cf_At D A ([]) t) A)) (by decide) (Nat.le_of_ble_eq_true rfl) ?_
  intro p e s m below meth c A ls En hsz hA hP hD hE hS hl
  have C : (dc_C p s m (([.ref (K 102)] : List Value).toArray) meth c cJString_length_ 1 (Option.some Jvm.ClassFile.FieldType.int) yJString_length_ ∧ cf_E D K A s s.heap ∧ ∀ q, s.heap.size ≤ q → A q) := ⟨En, hE, hA⟩
  exact bJString_length__S2_0 C r h hP hD hS hl
set_option maxHeartbeats 4000000 in
set_option maxRecDepth 100000 in
theorem bJString_isLatin1__S2_18 {p : Program} {l : Launch} {e : Env} {s : State} {m : MethodId} {below : List Frame} {meth : Method} {c : Code} {A : Nat → Prop} {D : va_G} {K : Nat → ClassId} {AR : Array Value} (C : (dc_C p s m AR meth c cJString_isLatin1_ 1 (Option.some Jvm.ClassFile.FieldType.boolean) yJString_isLatin1_ ∧ cf_E D K A s s.heap ∧ ∀ q, s.heap.size ≤ q → A q)) (s0 : Int32) (r : Int32) (h : fJString_isLatin1__S2_18 s0 = some r) {H : Heap} {locs : List Loc} {ls : Array Slot} (hP : va_P D vwCl ([]) H) (hD : va_D A ([])) (hS : va_S A s.heap H locs) (hl : lv_has ls 1 []) : W p l e ({ frames := 0, cells := 0, slots := 0, locals := 0 }) s m AR below meth c H locs 0 0 (MQ below (va_Qi (fun (x : Int32) (_ : Unit) => x = r) (fun (_ : Unit) t => cf_At D A ([]) t) A) AR s 0 0 A) (F0 m 18 ls [.int s0]) := by
  obtain ⟨⟨hx, hb, hr, hts, hown, hlocks, hin, hml⟩, hE, hA⟩ := id C
  have hK := hE.k
  obtain ⟨hz_1, h⟩ := op_w h
  obtain rfl := Option.some.inj h
  exact dc_zret hx hb hr (op_z hz_1) hlocks rfl hP hD hS dJString_isLatin1__18
set_option maxHeartbeats 4000000 in
set_option maxRecDepth 100000 in
theorem bJString_isLatin1__S2_17 {p : Program} {l : Launch} {e : Env} {s : State} {m : MethodId} {below : List Frame} {meth : Method} {c : Code} {A : Nat → Prop} {D : va_G} {K : Nat → ClassId} {AR : Array Value} (C : (dc_C p s m AR meth c cJString_isLatin1_ 1 (Option.some Jvm.ClassFile.FieldType.boolean) yJString_isLatin1_ ∧ cf_E D K A s s.heap ∧ ∀ q, s.heap.size ≤ q → A q)) (r : Int32) (h : fJString_isLatin1__S2_17 = some r) {H : Heap} {locs : List Loc} {ls : Array Slot} (hP : va_P D vwCl ([]) H) (hD : va_D A ([])) (hS : va_S A s.heap H locs) (hl : lv_has ls 1 []) : W p l e ({ frames := 0, cells := 0, slots := 0, locals := 0 }) s m AR below meth c H locs 0 0 (MQ below (va_Qi (fun (x : Int32) (_ : Unit) => x = r) (fun (_ : Unit) t => cf_At D A ([]) t) A) AR s 0 0 A) (F0 m 17 ls []) := by
  obtain ⟨⟨hx, hb, hr, hts, hown, hlocks, hin, hml⟩, hE, hA⟩ := id C
  have hK := hE.k
  refine lv_iconst (v := 0) hx hb dJString_isLatin1__17 (by decide) ?_
  exact bJString_isLatin1__S2_18 C _ _ h hP hD hS (lv_sub hl [] rfl)
set_option maxHeartbeats 4000000 in
set_option maxRecDepth 100000 in
theorem bJString_isLatin1__S2_0 {p : Program} {l : Launch} {e : Env} {s : State} {m : MethodId} {below : List Frame} {meth : Method} {c : Code} {A : Nat → Prop} {D : va_G} {K : Nat → ClassId} {AR : Array Value} (C : (dc_C p s m AR meth c cJString_isLatin1_ 1 (Option.some Jvm.ClassFile.FieldType.boolean) yJString_isLatin1_ ∧ cf_E D K A s s.heap ∧ ∀ q, s.heap.size ≤ q → A q)) (r : Int32) (h : fJString_isLatin1__S2_0 = some r) {H : Heap} {locs : List Loc} {ls : Array Slot} (hP : va_P D vwCl ([]) H) (hD : va_D A ([])) (hS : va_S A s.heap H locs) (hl : lv_has ls 1 [(0, .ref (K 102))]) : W p l e ({ frames := 0, cells := 0, slots := 0, locals := 0 }) s m AR below meth c H locs 0 0 (MQ below (va_Qi (fun (x : Int32) (_ : Unit) => x = r) (fun (_ : Unit) t => cf_At D A ([]) t) A) AR s 0 0 A) (F0 m 0 ls []) := by
  obtain ⟨⟨hx, hb, hr, hts, hown, hlocks, hin, hml⟩, hE, hA⟩ := id C
  have hK := hE.k
  refine va_gets hx hb hE.2.2.2.2.2.2.1 hS hown (hts _ wv_764) (fun _ h9 => h9) dJString_isLatin1__0 ?_
  refine lv_if_eq (tgt := 17) hx hb dJString_isLatin1__3 (by decide) (fun c_1 => absurd c_1 (by decide)) (fun _ => ?_)
  refine lv_aload_n hx hb dJString_isLatin1__6 rfl (lv_at hl 0 rfl) ?_
  refine vk_getf hx hb (hE.s 2 rfl).2.2.1 hS hown (hts _ wv_1736) (fun _ h9 => h9) dJString_isLatin1__7 ?_
  refine lv_if_ne (tgt := 17) hx hb dJString_isLatin1__10 (by decide) (fun c_2 => absurd (by decide) c_2) (fun _ => ?_)
  refine lv_iconst (v := 1) hx hb dJString_isLatin1__13 (by decide) ?_
  refine lv_goto (tgt := 18) hx hb dJString_isLatin1__14 (by decide) ?_
  exact bJString_isLatin1__S2_18 C _ _ h hP hD hS (lv_sub hl [] rfl)
set_option maxRecDepth 100000 in
theorem mJString_isLatin1__S2 (l : Launch) (D : va_G) (K : Nat → ClassId) (sz : Nat) (r : Int32) (h : fJString_isLatin1__S2 = some r) : Met l yJString_isLatin1_ (Cond.code yJString_isLatin1_ cJString_isLatin1_ 1 (Option.some Jvm.ClassFile.FieldType.boolean) :: cfB) ({ frames := 0, cells := 0, slots := 0, locals := 0 }) (va_Pc [.ref (K 102)] (cf_Pre D K sz ([]))) (va_Qi (fun (x : Int32) (_ : Unit) => x = r) (fun (_ : Unit) t => cf_At D (va_A ([]) sz) ([]) t) (va_A ([]) sz)) 0 0 (va_A ([]) sz) := by
  refine cf_ofW (y := yJString_isLatin1_) (As := [.ref (K 102)]) (WS := []) (maxL := 1) (fun A => (va_Qi (fun (x : Int32) (_ : Unit) => x = r) (fun (_ : Unit) t => cf_At D A ([]) t) A)) (by decide) (Nat.le_of_ble_eq_true rfl) ?_
  intro p e s m below meth c A ls En hsz hA hP hD hE hS hl
  have C : (dc_C p s m (([.ref (K 102)] : List Value).toArray) meth c cJString_isLatin1_ 1 (Option.some Jvm.ClassFile.FieldType.boolean) yJString_isLatin1_ ∧ cf_E D K A s s.heap ∧ ∀ q, s.heap.size ≤ q → A q) := ⟨En, hE, hA⟩
  exact bJString_isLatin1__S2_0 C r h hP hD hS hl
set_option maxHeartbeats 4000000 in
set_option maxRecDepth 100000 in
theorem bJStringLatin1_charAt_ABI_B2_0 {p : Program} {l : Launch} {e : Env} {s : State} {m : MethodId} {below : List Frame} {meth : Method} {c : Code} {A : Nat → Prop} {D : va_G} {K : Nat → ClassId} {AR : Array Value} (C : (dc_C p s m AR meth c cJStringLatin1_charAt_ABI 2 (Option.some Jvm.ClassFile.FieldType.char) yJStringLatin1_charAt_ABI ∧ cf_E D K A s s.heap ∧ ∀ q, s.heap.size ≤ q → A q)) (v1 : Int32) (r : Int32) (h : fJStringLatin1_charAt_ABI_B2_0 v1 = some r) {H : Heap} {locs : List Loc} {ls : Array Slot} (hP : va_P D vwCl ([]) H) (hD : va_D A ([])) (hS : va_S A s.heap H locs) (hl : lv_has ls 2 [(0, .ref (K 202)), (1, .int v1)]) : W p l e ({ frames := 2, cells := 0, slots := 0, locals := 43 }) s m AR below meth c H locs 0 0 (MQ below (va_Qi (fun (x : Int32) (_ : Unit) => x = r) (fun (_ : Unit) t => cf_At D A ([]) t) A) AR s 0 0 A) (F0 m 0 ls []) := by
  obtain ⟨⟨hx, hb, hr, hts, hown, hlocks, hin, hml⟩, hE, hA⟩ := id C
  have hK := hE.k
  refine lv_iload_n hx hb dJStringLatin1_charAt_ABI_0 rfl (lv_at hl 1 rfl) ?_
  refine lv_aload_n hx hb dJStringLatin1_charAt_ABI_1 rfl (lv_at hl 0 rfl) ?_
  refine va_tlen (v := 7) hx hb (hE.s 2 rfl).2.2.2.2 hS rfl dJStringLatin1_charAt_ABI_2 ?_
  obtain ⟨q_1, hq_1, h⟩ := op_b h
  refine dc_callv (va_runS (As := [.int v1, .int 7]) (rest := []) ⟨hx, hb, hml, hown, hts⟩ (mJString_checkIndex_II l D K _ v1 7 _ hq_1) (va_cwS 2 hts (cf_GS wv_780 wv_781 wv_168 wv_782) rfl rfl rfl (by decide +kernel) ⟨Nat.le_of_ble_eq_true rfl, Nat.le_of_ble_eq_true rfl⟩) (dc_preS hE hP hD hS hA) rfl rfl hl.1 rfl (lv_room (Nat.le_of_ble_eq_true rfl)) dJStringLatin1_charAt_ABI_3 ⟨Nat.le_of_ble_eq_true rfl, Nat.le_of_ble_eq_true rfl⟩) hP hD hS hA (fun H locs hP hD hS => ?_)
  refine lv_aload_n hx hb dJStringLatin1_charAt_ABI_6 rfl (lv_at hl 0 rfl) ?_
  refine lv_iload_n hx hb dJStringLatin1_charAt_ABI_7 rfl (lv_at hl 1 rfl) ?_
  obtain ⟨hi_3, h⟩ := op_n h
  refine va_tb hx hb (hE.s 2 rfl).2.2.2.2 hS (i := v1) hi_3 (v := .int (cf_sb 2 v1.toNatClampNeg)) rfl dJStringLatin1_charAt_ABI_8 ?_
  refine lv_topi (fun x_4 ex_4 => ?_)
  have h := op_ks ex_4 h
  refine lv_sipush (v := 255) hx hb dJStringLatin1_charAt_ABI_9 (by decide) ?_
  refine lv_iand hx hb dJStringLatin1_charAt_ABI_12 ?_
  refine lv_topi (fun x_5 ex_5 => ?_)
  have h := op_ks ex_5 h
  refine lv_i2c hx hb dJStringLatin1_charAt_ABI_13 rfl ?_
  refine lv_topi (fun x_6 ex_6 => ?_)
  have h := op_ks ex_6 h
  obtain ⟨hz_7, h⟩ := op_w h
  obtain rfl := Option.some.inj h
  exact dc_zretn hx hb hr (op_nc hz_7) hlocks rfl hP hD hS dJStringLatin1_charAt_ABI_14
set_option maxRecDepth 100000 in
theorem mJStringLatin1_charAt_ABI_B2 (l : Launch) (D : va_G) (K : Nat → ClassId) (sz : Nat) (v1 : Int32) (r : Int32) (h : fJStringLatin1_charAt_ABI_B2 v1 = some r) : Met l yJStringLatin1_charAt_ABI (Cond.code yJStringLatin1_charAt_ABI cJStringLatin1_charAt_ABI 2 (Option.some Jvm.ClassFile.FieldType.char) :: cfB) ({ frames := 2, cells := 0, slots := 0, locals := 43 }) (va_Pc [.ref (K 202), .int v1] (cf_Pre D K sz ([]))) (va_Qi (fun (x : Int32) (_ : Unit) => x = r) (fun (_ : Unit) t => cf_At D (va_A ([]) sz) ([]) t) (va_A ([]) sz)) 0 0 (va_A ([]) sz) := by
  refine cf_ofW (y := yJStringLatin1_charAt_ABI) (As := [.ref (K 202), .int v1]) (WS := []) (maxL := 2) (fun A => (va_Qi (fun (x : Int32) (_ : Unit) => x = r) (fun (_ : Unit) t => cf_At D A ([]) t) A)) (by decide) (Nat.le_of_ble_eq_true rfl) ?_
  intro p e s m below meth c A ls En hsz hA hP hD hE hS hl
  have C : (dc_C p s m (([.ref (K 202), .int v1] : List Value).toArray) meth c cJStringLatin1_charAt_ABI 2 (Option.some Jvm.ClassFile.FieldType.char) yJStringLatin1_charAt_ABI ∧ cf_E D K A s s.heap ∧ ∀ q, s.heap.size ≤ q → A q) := ⟨En, hE, hA⟩
  exact bJStringLatin1_charAt_ABI_B2_0 C v1 r h hP hD hS hl
set_option maxHeartbeats 4000000 in
set_option maxRecDepth 100000 in
theorem bJString_charAt_I_S2_0 {p : Program} {l : Launch} {e : Env} {s : State} {m : MethodId} {below : List Frame} {meth : Method} {c : Code} {A : Nat → Prop} {D : va_G} {K : Nat → ClassId} {AR : Array Value} (C : (dc_C p s m AR meth c cJString_charAt_I 2 (Option.some Jvm.ClassFile.FieldType.char) yJString_charAt_I ∧ cf_E D K A s s.heap ∧ ∀ q, s.heap.size ≤ q → A q)) (v1 : Int32) (r : Int32) (h : fJString_charAt_I_S2_0 v1 = some r) {H : Heap} {locs : List Loc} {ls : Array Slot} (hP : va_P D vwCl ([]) H) (hD : va_D A ([])) (hS : va_S A s.heap H locs) (hl : lv_has ls 2 [(0, .ref (K 102)), (1, .int v1)]) : W p l e ({ frames := 3, cells := 0, slots := 0, locals := 64 }) s m AR below meth c H locs 0 0 (MQ below (va_Qi (fun (x : Int32) (_ : Unit) => x = r) (fun (_ : Unit) t => cf_At D A ([]) t) A) AR s 0 0 A) (F0 m 0 ls []) := by
  obtain ⟨⟨hx, hb, hr, hts, hown, hlocks, hin, hml⟩, hE, hA⟩ := id C
  have hK := hE.k
  refine lv_aload_n hx hb dJString_charAt_I_0 rfl (lv_at hl 0 rfl) ?_
  obtain ⟨q_1, hq_1, h⟩ := op_b h
  refine cf_calli (wc := []) (wr := []) (va_runV (As := []) (rest := []) ⟨hx, hb, hml, hown, hts⟩ (mJString_isLatin1__S2 l D K _ _ hq_1) (cwV 0 hts (cf_GV wv_773 wv_774 wv_775 wv_168 wv_776) rfl rfl rfl (by decide +kernel) ⟨Nat.le_of_ble_eq_true rfl, Nat.le_of_ble_eq_true rfl⟩) (cf_preO (wc := []) (hE.s 2 rfl).2.1 hE hP hD hS hA [] rfl (by decide +kernel)) rfl rfl hl.1 rfl (lv_room (Nat.le_of_ble_eq_true rfl)) dJString_charAt_I_1 ⟨Nat.le_of_ble_eq_true rfl, Nat.le_of_ble_eq_true rfl⟩) hP hD hS hA [] [] rfl rfl (by decide +kernel) (by decide +kernel) (fun r_2 _ H locs hw_3 hP hD hS => ?_)
  subst r_2
  have hP : va_P D vwCl ([]) H := hP.sub [] rfl
  have hD : va_D A ([]) := hD.sub [] (by decide +kernel) rfl
  refine lv_if_eq (tgt := 16) hx hb dJString_charAt_I_4 (by decide) (fun c_4 => ?_) (fun c_4 => ?_)
  · have h := op_t c_4 h
    refine lv_aload_n hx hb dJString_charAt_I_16 rfl (lv_at hl 0 rfl) ?_
    refine vk_getf hx hb (hE.s 2 rfl).2.2.2.1 hS hown (hts _ wv_1735) (fun _ h9 => h9) dJString_charAt_I_17 ?_
    refine lv_iload_n hx hb dJString_charAt_I_20 rfl (lv_at hl 1 rfl) ?_
    cases h
  · have h := op_f c_4 h
    refine lv_aload_n hx hb dJString_charAt_I_7 rfl (lv_at hl 0 rfl) ?_
    refine vk_getf hx hb (hE.s 2 rfl).2.2.2.1 hS hown (hts _ wv_1735) (fun _ h9 => h9) dJString_charAt_I_8 ?_
    refine lv_iload_n hx hb dJString_charAt_I_11 rfl (lv_at hl 1 rfl) ?_
    obtain ⟨q_5, hq_5, h⟩ := op_b h
    refine dc_calli (va_runS (As := [.ref (K 202), .int v1]) (rest := []) ⟨hx, hb, hml, hown, hts⟩ (mJStringLatin1_charAt_ABI_B2 l D K _ v1 _ hq_5) (va_cwS 2 hts (cf_GS wv_777 wv_778 wv_179 wv_779) rfl rfl rfl (by decide +kernel) ⟨Nat.le_of_ble_eq_true rfl, Nat.le_of_ble_eq_true rfl⟩) (dc_preS hE hP hD hS hA) rfl rfl hl.1 rfl (lv_room (Nat.le_of_ble_eq_true rfl)) dJString_charAt_I_12 ⟨Nat.le_of_ble_eq_true rfl, Nat.le_of_ble_eq_true rfl⟩) hP hD hS hA (fun r_6 H locs hw_7 hP hD hS => ?_)
    subst r_6
    obtain ⟨hz_8, h⟩ := op_w h
    obtain rfl := Option.some.inj h
    exact dc_zretn hx hb hr (op_nc hz_8) hlocks rfl hP hD hS dJString_charAt_I_15
set_option maxRecDepth 100000 in
theorem mJString_charAt_I_S2 (l : Launch) (D : va_G) (K : Nat → ClassId) (sz : Nat) (v1 : Int32) (r : Int32) (h : fJString_charAt_I_S2 v1 = some r) : Met l yJString_charAt_I (Cond.code yJString_charAt_I cJString_charAt_I 2 (Option.some Jvm.ClassFile.FieldType.char) :: cfB) ({ frames := 3, cells := 0, slots := 0, locals := 64 }) (va_Pc [.ref (K 102), .int v1] (cf_Pre D K sz ([]))) (va_Qi (fun (x : Int32) (_ : Unit) => x = r) (fun (_ : Unit) t => cf_At D (va_A ([]) sz) ([]) t) (va_A ([]) sz)) 0 0 (va_A ([]) sz) := by
  refine cf_ofW (y := yJString_charAt_I) (As := [.ref (K 102), .int v1]) (WS := []) (maxL := 2) (fun A => (va_Qi (fun (x : Int32) (_ : Unit) => x = r) (fun (_ : Unit) t => cf_At D A ([]) t) A)) (by decide) (Nat.le_of_ble_eq_true rfl) ?_
  intro p e s m below meth c A ls En hsz hA hP hD hE hS hl
  have C : (dc_C p s m (([.ref (K 102), .int v1] : List Value).toArray) meth c cJString_charAt_I 2 (Option.some Jvm.ClassFile.FieldType.char) yJString_charAt_I ∧ cf_E D K A s s.heap ∧ ∀ q, s.heap.size ≤ q → A q) := ⟨En, hE, hA⟩
  exact bJString_charAt_I_S2_0 C v1 r h hP hD hS hl
def IhTx_isWord_S2 (p : Program) (l : Launch) (e : Env) (s : State) (m : MethodId) (below : List Frame) (meth : Method) (c : Code) (A : Nat → Prop) (D : va_G) (K : Nat → ClassId) (h0 : Nat) (a0 : Nat → Nat) (AR : Array Value) (n : Nat) : Prop := (∀ (v1 : Int32) (v3 : Int32) (o0 : cf_O) (r : Int32), gTx_isWord_S2 n 0 v1 v3 o0 = some r → ∀ {H : Heap} {locs : List Loc} {ls : Array Slot}, (va_P D vwCl (wTx K h0 a0 o0) H) → (va_D A (wTx K h0 a0 o0)) → va_S A s.heap H locs → lv_has ls 4 [(0, .ref h0), (1, .int v1), (2, .ref (K 102)), (3, .int v3)] → W p l e ({ frames := 4, cells := 0, slots := 0, locals := 85 }) s m AR below meth c H locs 0 0 (MQ below (va_Qi (fun (x : Int32) (_ : Unit) => x = r) (fun (_ : Unit) t => cf_At D A (wTx K h0 a0 o0) t) A) AR s 0 0 A) (F0 m 16 ls []))
set_option maxHeartbeats 4000000 in
set_option maxRecDepth 100000 in
theorem bTx_isWord_S2_16 {p : Program} {l : Launch} {e : Env} {s : State} {m : MethodId} {below : List Frame} {meth : Method} {c : Code} {A : Nat → Prop} {D : va_G} {K : Nat → ClassId} {h0 : Nat} {a0 : Nat → Nat} {AR : Array Value} (C : (dc_C p s m AR meth c cTx_isWord 4 (Option.some Jvm.ClassFile.FieldType.boolean) yTx_isWord ∧ cf_E D K A s s.heap ∧ ∀ q, s.heap.size ≤ q → A q)) {n : Nat} (ih : IhTx_isWord_S2 p l e s m below meth c A D K h0 a0 AR n) (v1 : Int32) (v3 : Int32) (o0 : cf_O) (r : Int32) (h : fTx_isWord_S2_16 (gTx_isWord_S2 n) v1 v3 o0 = some r) {H : Heap} {locs : List Loc} {ls : Array Slot} (hP : va_P D vwCl (wTx K h0 a0 o0) H) (hD : va_D A (wTx K h0 a0 o0)) (hS : va_S A s.heap H locs) (hl : lv_has ls 4 [(0, .ref h0), (1, .int v1), (2, .ref (K 102)), (3, .int v3)]) : W p l e ({ frames := 4, cells := 0, slots := 0, locals := 85 }) s m AR below meth c H locs 0 0 (MQ below (va_Qi (fun (x : Int32) (_ : Unit) => x = r) (fun (_ : Unit) t => cf_At D A (wTx K h0 a0 o0) t) A) AR s 0 0 A) (F0 m 16 ls []) := by
  obtain ⟨⟨hx, hb, hr, hts, hown, hlocks, hin, hml⟩, hE, hA⟩ := id C
  have hK := hE.k
  refine lv_iload_n hx hb dTx_isWord_16 rfl (lv_at hl 3 rfl) ?_
  refine lv_aload_n hx hb dTx_isWord_17 rfl (lv_at hl 2 rfl) ?_
  obtain ⟨q_1, hq_1, h⟩ := op_b h
  refine cf_calli (wc := []) (wr := wTx K h0 a0 o0) (va_runV (As := []) (rest := [.int v3]) ⟨hx, hb, hml, hown, hts⟩ (mJString_length__S2 l D K _ _ hq_1) (cwV 0 hts (cf_GV wv_756 wv_757 wv_758 wv_168 wv_759) rfl rfl rfl (by decide +kernel) ⟨Nat.le_of_ble_eq_true rfl, Nat.le_of_ble_eq_true rfl⟩) (cf_preO (wc := []) (hE.s 2 rfl).2.1 hE hP hD hS hA [] rfl (by decide +kernel)) rfl rfl hl.1 rfl (lv_room (Nat.le_of_ble_eq_true rfl)) dTx_isWord_18 ⟨Nat.le_of_ble_eq_true rfl, Nat.le_of_ble_eq_true rfl⟩) hP hD hS hA [] [0, 1, 2, 3] rfl rfl (by decide +kernel) (by decide +kernel) (fun r_2 _ H locs hw_3 hP hD hS => ?_)
  subst r_2
  have hP : va_P D vwCl (wTx K h0 a0 o0) H := hP.sub [0, 1, 2, 3] rfl
  have hD : va_D A (wTx K h0 a0 o0) := hD.sub [0, 1, 2, 3] (by decide +kernel) rfl
  refine lv_icmp_ge (tgt := 46) hx hb dTx_isWord_21 (by decide) (fun c_4 => ?_) (fun c_4 => ?_)
  · have h := op_t c_4 h
    refine lv_iconst (v := 1) hx hb dTx_isWord_46 (by decide) ?_
    obtain rfl := Option.some.inj h
    exact dc_zret hx hb hr rfl hlocks rfl hP hD hS dTx_isWord_47
  · have h := op_f c_4 h
    refine lv_aload_n hx hb dTx_isWord_24 rfl (lv_at hl 0 rfl) ?_
    refine lv_iload_n hx hb dTx_isWord_25 rfl (lv_at hl 1 rfl) ?_
    refine lv_iload_n hx hb dTx_isWord_26 rfl (lv_at hl 3 rfl) ?_
    obtain ⟨q_5, hq_5, h⟩ := op_b h
    refine dc_calli (va_runV (As := [.int v1, .int v3]) (rest := []) ⟨hx, hb, hml, hown, hts⟩ (mTx_signOf l D K _ v1 v3 h0 a0 o0 _ hq_5) (cwV 2 hts (cf_GV wv_765 wv_766 wv_767 wv_158 wv_768) rfl rfl rfl (by decide +kernel) ⟨Nat.le_of_ble_eq_true rfl, Nat.le_of_ble_eq_true rfl⟩) (dc_preV hE hP hD hS hA rfl 0 rfl) rfl rfl hl.1 rfl (lv_room (Nat.le_of_ble_eq_true rfl)) dTx_isWord_27 ⟨Nat.le_of_ble_eq_true rfl, Nat.le_of_ble_eq_true rfl⟩) hP hD hS hA (fun r_6 H locs hw_7 hP hD hS => ?_)
    subst r_6
    refine lv_aload_n hx hb dTx_isWord_30 rfl (lv_at hl 2 rfl) ?_
    refine lv_iload_n hx hb dTx_isWord_31 rfl (lv_at hl 3 rfl) ?_
    obtain ⟨q_8, hq_8, h⟩ := op_b h
    refine cf_calli (wc := []) (wr := wTx K h0 a0 o0) (va_runV (As := [.int v3]) (rest := [.int q_5]) ⟨hx, hb, hml, hown, hts⟩ (mJString_charAt_I_S2 l D K _ v3 _ hq_8) (cwV 1 hts (cf_GV wv_769 wv_770 wv_771 wv_168 wv_772) rfl rfl rfl (by decide +kernel) ⟨Nat.le_of_ble_eq_true rfl, Nat.le_of_ble_eq_true rfl⟩) (cf_preO (wc := []) (hE.s 2 rfl).2.1 hE hP hD hS hA [] rfl (by decide +kernel)) rfl rfl hl.1 rfl (lv_room (Nat.le_of_ble_eq_true rfl)) dTx_isWord_32 ⟨Nat.le_of_ble_eq_true rfl, Nat.le_of_ble_eq_true rfl⟩) hP hD hS hA [] [0, 1, 2, 3] rfl rfl (by decide +kernel) (by decide +kernel) (fun r_9 _ H locs hw_10 hP hD hS => ?_)
    subst r_9
    have hP : va_P D vwCl (wTx K h0 a0 o0) H := hP.sub [0, 1, 2, 3] rfl
    have hD : va_D A (wTx K h0 a0 o0) := hD.sub [0, 1, 2, 3] (by decide +kernel) rfl
    refine lv_icmp_eq (tgt := 40) hx hb dTx_isWord_35 (by decide) (fun c_11 => ?_) (fun c_11 => ?_)
    · have h := op_t c_11 h
      obtain ⟨x_12, ex_12⟩ : ∃ y : Int32, y = v3 + 1 := ⟨_, rfl⟩
      refine lv_iinc (v := x_12) (lv' := [(3, .int x_12), (0, .ref h0), (1, .int v1), (2, .ref (K 102))]) hx hb dTx_isWord_40 hl (k := 3) rfl (by rw [ex_12]; rfl) (by decide) rfl (fun ls hl => ?_)
      have h := op_ks ex_12 h
      refine lv_goto (tgt := 16) hx hb dTx_isWord_43 (by decide) ?_
      exact (ih) _ _ _ _ h hP hD hS (lv_sub hl [1, 2, 3, 0] rfl)
    · have h := op_f c_11 h
      refine lv_iconst (v := 0) hx hb dTx_isWord_38 (by decide) ?_
      obtain rfl := Option.some.inj h
      exact dc_zret hx hb hr rfl hlocks rfl hP hD hS dTx_isWord_39
set_option maxHeartbeats 4000000 in
set_option maxRecDepth 100000 in
theorem bTx_isWord_S2_0 {p : Program} {l : Launch} {e : Env} {s : State} {m : MethodId} {below : List Frame} {meth : Method} {c : Code} {A : Nat → Prop} {D : va_G} {K : Nat → ClassId} {h0 : Nat} {a0 : Nat → Nat} {AR : Array Value} (C : (dc_C p s m AR meth c cTx_isWord 4 (Option.some Jvm.ClassFile.FieldType.boolean) yTx_isWord ∧ cf_E D K A s s.heap ∧ ∀ q, s.heap.size ≤ q → A q)) {n : Nat} (ih : IhTx_isWord_S2 p l e s m below meth c A D K h0 a0 AR n) (v1 : Int32) (o0 : cf_O) (r : Int32) (h : fTx_isWord_S2_0 (gTx_isWord_S2 n) v1 o0 = some r) {H : Heap} {locs : List Loc} {ls : Array Slot} (hP : va_P D vwCl (wTx K h0 a0 o0) H) (hD : va_D A (wTx K h0 a0 o0)) (hS : va_S A s.heap H locs) (hl : lv_has ls 4 [(0, .ref h0), (1, .int v1), (2, .ref (K 102))]) : W p l e ({ frames := 4, cells := 0, slots := 0, locals := 85 }) s m AR below meth c H locs 0 0 (MQ below (va_Qi (fun (x : Int32) (_ : Unit) => x = r) (fun (_ : Unit) t => cf_At D A (wTx K h0 a0 o0) t) A) AR s 0 0 A) (F0 m 0 ls []) := by
  obtain ⟨⟨hx, hb, hr, hts, hown, hlocks, hin, hml⟩, hE, hA⟩ := id C
  have hK := hE.k
  refine lv_aload_n hx hb dTx_isWord_0 rfl (lv_at hl 0 rfl) ?_
  refine lv_iload_n hx hb dTx_isWord_1 rfl (lv_at hl 1 rfl) ?_
  obtain ⟨q_1, hq_1, h⟩ := op_b h
  refine dc_calli (va_runV (As := [.int v1]) (rest := []) ⟨hx, hb, hml, hown, hts⟩ (mTx_length l D K _ v1 h0 a0 o0 _ hq_1) (cwV 1 hts (cf_GV wv_752 wv_753 wv_754 wv_158 wv_755) rfl rfl rfl (by decide +kernel) ⟨Nat.le_of_ble_eq_true rfl, Nat.le_of_ble_eq_true rfl⟩) (dc_preV hE hP hD hS hA rfl 0 rfl) rfl rfl hl.1 rfl (lv_room (Nat.le_of_ble_eq_true rfl)) dTx_isWord_2 ⟨Nat.le_of_ble_eq_true rfl, Nat.le_of_ble_eq_true rfl⟩) hP hD hS hA (fun r_2 H locs hw_3 hP hD hS => ?_)
  subst r_2
  refine lv_aload_n hx hb dTx_isWord_5 rfl (lv_at hl 2 rfl) ?_
  obtain ⟨q_4, hq_4, h⟩ := op_b h
  refine cf_calli (wc := []) (wr := wTx K h0 a0 o0) (va_runV (As := []) (rest := [.int q_1]) ⟨hx, hb, hml, hown, hts⟩ (mJString_length__S2 l D K _ _ hq_4) (cwV 0 hts (cf_GV wv_756 wv_757 wv_758 wv_168 wv_759) rfl rfl rfl (by decide +kernel) ⟨Nat.le_of_ble_eq_true rfl, Nat.le_of_ble_eq_true rfl⟩) (cf_preO (wc := []) (hE.s 2 rfl).2.1 hE hP hD hS hA [] rfl (by decide +kernel)) rfl rfl hl.1 rfl (lv_room (Nat.le_of_ble_eq_true rfl)) dTx_isWord_6 ⟨Nat.le_of_ble_eq_true rfl, Nat.le_of_ble_eq_true rfl⟩) hP hD hS hA [] [0, 1, 2, 3] rfl rfl (by decide +kernel) (by decide +kernel) (fun r_5 _ H locs hw_6 hP hD hS => ?_)
  subst r_5
  have hP : va_P D vwCl (wTx K h0 a0 o0) H := hP.sub [0, 1, 2, 3] rfl
  have hD : va_D A (wTx K h0 a0 o0) := hD.sub [0, 1, 2, 3] (by decide +kernel) rfl
  refine lv_icmp_eq (tgt := 14) hx hb dTx_isWord_9 (by decide) (fun c_7 => ?_) (fun c_7 => ?_)
  · have h := op_t c_7 h
    refine lv_iconst (v := 0) hx hb dTx_isWord_14 (by decide) ?_
    refine lv_istore_n (lv' := [(3, .int 0), (0, .ref h0), (1, .int v1), (2, .ref (K 102))]) hx hb dTx_isWord_15 rfl hl (by decide) rfl (fun ls hl => ?_)
    exact (ih) _ _ _ _ h hP hD hS (lv_sub hl [1, 2, 3, 0] rfl)
  · have h := op_f c_7 h
    refine lv_iconst (v := 0) hx hb dTx_isWord_12 (by decide) ?_
    obtain rfl := Option.some.inj h
    exact dc_zret hx hb hr rfl hlocks rfl hP hD hS dTx_isWord_13
theorem iTx_isWord_S2 {p : Program} {l : Launch} {e : Env} {s : State} {m : MethodId} {below : List Frame} {meth : Method} {c : Code} {A : Nat → Prop} {D : va_G} {K : Nat → ClassId} {h0 : Nat} {a0 : Nat → Nat} {AR : Array Value} (C : (dc_C p s m AR meth c cTx_isWord 4 (Option.some Jvm.ClassFile.FieldType.boolean) yTx_isWord ∧ cf_E D K A s s.heap ∧ ∀ q, s.heap.size ≤ q → A q)) : ∀ n, IhTx_isWord_S2 p l e s m below meth c A D K h0 a0 AR n := by
  intro n
  induction n with
  | zero => exact (fun _ _ _ r h => by cases (show none = some r from h))
  | succ n ih => exact fun x0 x1 x2 r h _ _ _ hP hD hS hl => bTx_isWord_S2_16 C ih x0 x1 x2 r h hP hD hS hl
set_option maxRecDepth 100000 in
theorem mTx_isWord_S2 (l : Launch) (D : va_G) (K : Nat → ClassId) (sz : Nat) (v1 : Int32) (h0 : Nat) (a0 : Nat → Nat) (o0 : cf_O) (r : Int32) (h : fTx_isWord_S2 v1 o0 = some r) : Met l yTx_isWord (Cond.code yTx_isWord cTx_isWord 4 (Option.some Jvm.ClassFile.FieldType.boolean) :: cfB) ({ frames := 4, cells := 0, slots := 0, locals := 85 }) (va_Pc [.ref h0, .int v1, .ref (K 102)] (cf_Pre D K sz (wTx K h0 a0 o0))) (va_Qi (fun (x : Int32) (_ : Unit) => x = r) (fun (_ : Unit) t => cf_At D (va_A (wTx K h0 a0 o0) sz) (wTx K h0 a0 o0) t) (va_A (wTx K h0 a0 o0) sz)) 0 0 (va_A (wTx K h0 a0 o0) sz) := by
  refine cf_ofW (y := yTx_isWord) (As := [.ref h0, .int v1, .ref (K 102)]) (WS := wTx K h0 a0 o0) (maxL := 4) (fun A => (va_Qi (fun (x : Int32) (_ : Unit) => x = r) (fun (_ : Unit) t => cf_At D A (wTx K h0 a0 o0) t) A)) (by decide) (Nat.le_of_ble_eq_true rfl) ?_
  intro p e s m below meth c A ls En hsz hA hP hD hE hS hl
  have C : (dc_C p s m (([.ref h0, .int v1, .ref (K 102)] : List Value).toArray) meth c cTx_isWord 4 (Option.some Jvm.ClassFile.FieldType.boolean) yTx_isWord ∧ cf_E D K A s s.heap ∧ ∀ q, s.heap.size ≤ q → A q) := ⟨En, hE, hA⟩
  exact bTx_isWord_S2_0 C (iTx_isWord_S2 C cfFU) v1 o0 r h hP hD hS hl
def IhNl_takeNames_Nl3 (p : Program) (l : Launch) (e : Env) (s : State) (m : MethodId) (below : List Frame) (meth : Method) (c : Code) (A : Nat → Prop) (D : va_G) (K : Nat → ClassId) (h0 : Nat) (a0 : Nat → Nat) (h1 : Nat) (a1 : Nat → Nat) (AR : Array Value) (n : Nat) : Prop := (∀ (v2 : Int32) (v4 : Int32) (v5 : Int32) (o0 : cf_O) (o1 : cf_O) (r : Int32 × cf_O), gNl_takeNames_Nl3 n 0 v2 v4 v5 o0 o1 = some r → ∀ {H : Heap} {locs : List Loc} {ls : Array Slot}, (va_P D vwCl (wTx K h0 a0 o0 ++ wNl K h1 a1 o1) H) → (va_D A (wTx K h0 a0 o0 ++ wNl K h1 a1 o1)) → va_S A s.heap H locs → lv_has ls 6 [(0, .ref h0), (1, .ref (a1 3)), (2, .int v2), (4, .int v4), (5, .int v5)] → W p l e ({ frames := 2, cells := 0, slots := 0, locals := 47 }) s m AR below meth c H locs 0 0 (MQ below (va_Qi (fun (x : Int32) (_ : Unit) => x = r.1) (fun (_ : Unit) t => cf_At D A (wTx K h0 a0 o0 ++ wNl K h1 a1 r.2) t) A) AR s 0 0 A) (F0 m 25 ls []))
set_option maxHeartbeats 4000000 in
set_option maxRecDepth 100000 in
theorem bNl_takeNames_Nl3_25 {p : Program} {l : Launch} {e : Env} {s : State} {m : MethodId} {below : List Frame} {meth : Method} {c : Code} {A : Nat → Prop} {D : va_G} {K : Nat → ClassId} {h0 : Nat} {a0 : Nat → Nat} {h1 : Nat} {a1 : Nat → Nat} {AR : Array Value} (C : (dc_C p s m AR meth c cNl_takeNames 6 (Option.some Jvm.ClassFile.FieldType.boolean) yNl_takeNames ∧ cf_E D K A s s.heap ∧ ∀ q, s.heap.size ≤ q → A q)) {n : Nat} (ih : IhNl_takeNames_Nl3 p l e s m below meth c A D K h0 a0 h1 a1 AR n) (v2 : Int32) (v4 : Int32) (v5 : Int32) (o0 : cf_O) (o1 : cf_O) (r : Int32 × cf_O) (h : fNl_takeNames_Nl3_25 (gNl_takeNames_Nl3 n) v2 v4 v5 o0 o1 = some r) {H : Heap} {locs : List Loc} {ls : Array Slot} (hP : va_P D vwCl (wTx K h0 a0 o0 ++ wNl K h1 a1 o1) H) (hD : va_D A (wTx K h0 a0 o0 ++ wNl K h1 a1 o1)) (hS : va_S A s.heap H locs) (hl : lv_has ls 6 [(0, .ref h0), (1, .ref (a1 3)), (2, .int v2), (4, .int v4), (5, .int v5)]) : W p l e ({ frames := 2, cells := 0, slots := 0, locals := 47 }) s m AR below meth c H locs 0 0 (MQ below (va_Qi (fun (x : Int32) (_ : Unit) => x = r.1) (fun (_ : Unit) t => cf_At D A (wTx K h0 a0 o0 ++ wNl K h1 a1 r.2) t) A) AR s 0 0 A) (F0 m 25 ls []) := by
  obtain ⟨⟨hx, hb, hr, hts, hown, hlocks, hin, hml⟩, hE, hA⟩ := id C
  have hK := hE.k
  refine lv_iload hx hb dNl_takeNames_25 (lv_at hl 4 rfl) ?_
  refine lv_iload hx hb dNl_takeNames_27 (lv_at hl 3 rfl) ?_
  refine lv_icmp_ge (tgt := 65) hx hb dNl_takeNames_29 (by decide) (fun c_1 => ?_) (fun c_1 => ?_)
  · have h := op_t c_1 h
    refine lv_iconst (v := 1) hx hb dNl_takeNames_65 (by decide) ?_
    obtain rfl := Option.some.inj h
    exact dc_zret hx hb hr rfl hlocks rfl hP hD hS dNl_takeNames_66
  · have h := op_f c_1 h
    refine lv_aload_n hx hb dNl_takeNames_32 rfl (lv_at hl 1 rfl) ?_
    refine lv_iload_n hx hb dNl_takeNames_33 rfl (lv_at hl 2 rfl) ?_
    refine lv_iload hx hb dNl_takeNames_34 (lv_at hl 4 rfl) ?_
    refine lv_iadd hx hb dNl_takeNames_36 ?_
    refine lv_topi (fun x_2 ex_2 => ?_)
    have h := op_ks ex_2 h
    refine lv_aload_n hx hb dNl_takeNames_37 rfl (lv_at hl 0 rfl) ?_
    refine lv_iload hx hb dNl_takeNames_38 (lv_at hl 4 rfl) ?_
    refine lv_iconst (v := 1) hx hb dNl_takeNames_40 (by decide) ?_
    refine lv_iadd hx hb dNl_takeNames_41 ?_
    refine lv_topi (fun x_3 ex_3 => ?_)
    have h := op_ks ex_3 h
    obtain ⟨q_4, hq_4, h⟩ := op_b h
    refine cf_calll (wc := wTx K h0 a0 o0) (wr := wNl K h1 a1 o1) (va_runV (As := [.int x_3]) (rest := [.int x_2, .ref (a1 3)]) ⟨hx, hb, hml, hown, hts⟩ (mTx_name l D K _ x_3 h0 a0 o0 _ hq_4) (cwV 1 hts (cf_GV wv_988 wv_813 wv_814 wv_158 wv_815) rfl rfl rfl (by decide +kernel) ⟨Nat.le_of_ble_eq_true rfl, Nat.le_of_ble_eq_true rfl⟩) (cf_preV (wc := wTx K h0 a0 o0) hE hP hD hS hA rfl 0 rfl [0, 1, 2, 3] rfl (by decide +kernel)) rfl rfl hl.1 rfl (lv_room (Nat.le_of_ble_eq_true rfl)) dNl_takeNames_42 ⟨Nat.le_of_ble_eq_true rfl, Nat.le_of_ble_eq_true rfl⟩) hP hD hS hA [0, 1, 2, 3] [4, 5, 6, 7, 8, 9, 10, 11, 12, 13, 14, 15, 16] rfl rfl (by decide +kernel) (by decide +kernel) (fun r_5 _ H locs hw_6 hP hD hS => ?_)
    subst r_5
    have hP : va_P D vwCl (wTx K h0 a0 o0 ++ wNl K h1 a1 o1) H := hP.sub [13, 14, 15, 16, 0, 1, 2, 3, 4, 5, 6, 7, 8, 9, 10, 11, 12] rfl
    have hD : va_D A (wTx K h0 a0 o0 ++ wNl K h1 a1 o1) := hD.sub [13, 14, 15, 16, 0, 1, 2, 3, 4, 5, 6, 7, 8, 9, 10, 11, 12] (by decide +kernel) rfl
    obtain ⟨hi_7, h⟩ := op_n h
    refine va_last (D := D) hx hb hK hP hD hS 5 1 rfl rfl hi_7 dNl_takeNames_45 (fun H locs hP hD hS => ?_)
    have hP : va_P D vwCl (wTx K h0 a0 o0 ++ wNl K h1 a1 (yp o1 3 x_2.toNatClampNeg q_4)) H := hP
    have hD : va_D A (wTx K h0 a0 o0 ++ wNl K h1 a1 (yp o1 3 x_2.toNatClampNeg q_4)) := hD
    obtain ⟨o_8, eo_8, h⟩ := op_kx h
    rw [← eo_8] at hP hD
    refine lv_aload_n hx hb dNl_takeNames_46 rfl (lv_at hl 1 rfl) ?_
    refine lv_iload_n hx hb dNl_takeNames_47 rfl (lv_at hl 2 rfl) ?_
    refine lv_iload hx hb dNl_takeNames_48 (lv_at hl 4 rfl) ?_
    refine lv_iadd hx hb dNl_takeNames_50 ?_
    refine lv_topi (fun x_9 ex_9 => ?_)
    have h := op_ks ex_9 h
    obtain ⟨hi_10, h⟩ := op_n h
    refine va_lald (D := D) hx hb hK hP 5 1 rfl rfl hi_10 dNl_takeNames_51 ?_
    refine lv_topl (fun x_11 ex_11 => ?_)
    have h := op_ks ex_11 h
    refine lv_lconst (v := 0) hx hb dNl_takeNames_52 (by decide) ?_
    refine W.lcmp hx hb dNl_takeNames_53 ?_
    refine lv_topi (fun x_12 ex_12 => ?_)
    have h := op_ks ex_12 h
    refine lv_if_ne (tgt := 59) hx hb dNl_takeNames_54 (by decide) (fun c_13 => ?_) (fun c_13 => ?_)
    · have h := op_f c_13 h
      obtain ⟨x_14, ex_14⟩ : ∃ y : Int32, y = v5 + 1 := ⟨_, rfl⟩
      refine lv_iinc (v := x_14) (lv' := [(5, .int x_14), (0, .ref h0), (1, .ref (a1 3)), (2, .int v2), (4, .int v4)]) hx hb dNl_takeNames_59 hl (k := 4) rfl (by rw [ex_14]; rfl) (by decide) rfl (fun ls hl => ?_)
      have h := op_ks ex_14 h
      refine lv_goto (tgt := 25) hx hb dNl_takeNames_62 (by decide) ?_
      exact (ih) _ _ _ _ _ _ h hP hD hS (lv_sub hl [1, 2, 3, 4, 0] rfl)
    · have h := op_t c_13 h
      refine lv_iconst (v := 0) hx hb dNl_takeNames_57 (by decide) ?_
      obtain rfl := Option.some.inj h
      exact dc_zret hx hb hr rfl hlocks rfl hP hD hS dNl_takeNames_58
set_option maxHeartbeats 4000000 in
set_option maxRecDepth 100000 in
theorem bNl_takeNames_Nl3_20 {p : Program} {l : Launch} {e : Env} {s : State} {m : MethodId} {below : List Frame} {meth : Method} {c : Code} {A : Nat → Prop} {D : va_G} {K : Nat → ClassId} {h0 : Nat} {a0 : Nat → Nat} {h1 : Nat} {a1 : Nat → Nat} {AR : Array Value} (C : (dc_C p s m AR meth c cNl_takeNames 6 (Option.some Jvm.ClassFile.FieldType.boolean) yNl_takeNames ∧ cf_E D K A s s.heap ∧ ∀ q, s.heap.size ≤ q → A q)) {n : Nat} (ih : IhNl_takeNames_Nl3 p l e s m below meth c A D K h0 a0 h1 a1 AR n) (o0 : cf_O) (o1 : cf_O) (r : Int32 × cf_O) (h : fNl_takeNames_Nl3_20 (gNl_takeNames_Nl3 n) o0 o1 = some r) {H : Heap} {locs : List Loc} {ls : Array Slot} (hP : va_P D vwCl (wTx K h0 a0 o0 ++ wNl K h1 a1 o1) H) (hD : va_D A (wTx K h0 a0 o0 ++ wNl K h1 a1 o1)) (hS : va_S A s.heap H locs) (hl : lv_has ls 6 []) : W p l e ({ frames := 2, cells := 0, slots := 0, locals := 47 }) s m AR below meth c H locs 0 0 (MQ below (va_Qi (fun (x : Int32) (_ : Unit) => x = r.1) (fun (_ : Unit) t => cf_At D A (wTx K h0 a0 o0 ++ wNl K h1 a1 r.2) t) A) AR s 0 0 A) (F0 m 20 ls []) := by
  obtain ⟨⟨hx, hb, hr, hts, hown, hlocks, hin, hml⟩, hE, hA⟩ := id C
  have hK := hE.k
  refine lv_iconst (v := 0) hx hb dNl_takeNames_20 (by decide) ?_
  obtain rfl := Option.some.inj h
  exact dc_zret hx hb hr rfl hlocks rfl hP hD hS dNl_takeNames_21
set_option maxHeartbeats 4000000 in
set_option maxRecDepth 100000 in
theorem bNl_takeNames_Nl3_0 {p : Program} {l : Launch} {e : Env} {s : State} {m : MethodId} {below : List Frame} {meth : Method} {c : Code} {A : Nat → Prop} {D : va_G} {K : Nat → ClassId} {h0 : Nat} {a0 : Nat → Nat} {h1 : Nat} {a1 : Nat → Nat} {AR : Array Value} (C : (dc_C p s m AR meth c cNl_takeNames 6 (Option.some Jvm.ClassFile.FieldType.boolean) yNl_takeNames ∧ cf_E D K A s s.heap ∧ ∀ q, s.heap.size ≤ q → A q)) {n : Nat} (ih : IhNl_takeNames_Nl3 p l e s m below meth c A D K h0 a0 h1 a1 AR n) (v2 : Int32) (v3 : Int32) (o0 : cf_O) (o1 : cf_O) (r : Int32 × cf_O) (h : fNl_takeNames_Nl3_0 (gNl_takeNames_Nl3 n) v2 v3 o0 o1 = some r) {H : Heap} {locs : List Loc} {ls : Array Slot} (hP : va_P D vwCl (wTx K h0 a0 o0 ++ wNl K h1 a1 o1) H) (hD : va_D A (wTx K h0 a0 o0 ++ wNl K h1 a1 o1)) (hS : va_S A s.heap H locs) (hl : lv_has ls 6 [(0, .ref h0), (1, .ref (a1 3)), (2, .int v2), (3, .int v3)]) : W p l e ({ frames := 2, cells := 0, slots := 0, locals := 47 }) s m AR below meth c H locs 0 0 (MQ below (va_Qi (fun (x : Int32) (_ : Unit) => x = r.1) (fun (_ : Unit) t => cf_At D A (wTx K h0 a0 o0 ++ wNl K h1 a1 r.2) t) A) AR s 0 0 A) (F0 m 0 ls []) := by
  obtain ⟨⟨hx, hb, hr, hts, hown, hlocks, hin, hml⟩, hE, hA⟩ := id C
  have hK := hE.k
  refine lv_aload_n hx hb dNl_takeNames_0 rfl (lv_at hl 0 rfl) ?_
  refine va_get (D := D) (ci := 1) (v := .int (o0.1 5)) (C := RTx) (T := TTx) (N := 7) hx hb hts inTx hown hK hP 0 rfl rfl 5 (by decide) (hts _ wv_214) (fun _ h9 => h9) rfl dNl_takeNames_1 ?_
  refine lv_iconst (v := 1) hx hb dNl_takeNames_4 (by decide) ?_
  refine lv_isub hx hb dNl_takeNames_5 ?_
  refine lv_topi (fun x_1 ex_1 => ?_)
  have h := op_ks ex_1 h
  refine lv_istore (lv' := [(4, .int x_1), (0, .ref h0), (1, .ref (a1 3)), (2, .int v2), (3, .int v3)]) hx hb dNl_takeNames_6 hl (by decide) rfl (fun ls hl => ?_)
  refine lv_iload hx hb dNl_takeNames_8 (lv_at hl 0 rfl) ?_
  refine lv_iconst (v := 1) hx hb dNl_takeNames_10 (by decide) ?_
  refine lv_icmp_lt (tgt := 20) hx hb dNl_takeNames_11 (by decide) (fun c_2 => ?_) (fun c_2 => ?_)
  · have h := op_t c_2 h
    exact bNl_takeNames_Nl3_20 C ih _ _ _ h hP hD hS (lv_sub hl [] rfl)
  · have h := op_f c_2 h
    refine lv_iload hx hb dNl_takeNames_14 (lv_at hl 0 rfl) ?_
    refine lv_iload_n hx hb dNl_takeNames_16 rfl (lv_at hl 4 rfl) ?_
    refine lv_icmp_le (tgt := 22) hx hb dNl_takeNames_17 (by decide) (fun c_3 => ?_) (fun c_3 => ?_)
    · have h := op_t c_3 h
      refine lv_iconst (v := 0) hx hb dNl_takeNames_22 (by decide) ?_
      refine lv_istore (lv' := [(5, .int 0), (4, .int x_1), (0, .ref h0), (1, .ref (a1 3)), (2, .int v2), (3, .int v3)]) hx hb dNl_takeNames_23 hl (by decide) rfl (fun ls hl => ?_)
      exact (ih) _ _ _ _ _ _ h hP hD hS (lv_sub hl [2, 3, 4, 1, 0] rfl)
    · have h := op_f c_3 h
      exact bNl_takeNames_Nl3_20 C ih _ _ _ h hP hD hS (lv_sub hl [] rfl)
theorem iNl_takeNames_Nl3 {p : Program} {l : Launch} {e : Env} {s : State} {m : MethodId} {below : List Frame} {meth : Method} {c : Code} {A : Nat → Prop} {D : va_G} {K : Nat → ClassId} {h0 : Nat} {a0 : Nat → Nat} {h1 : Nat} {a1 : Nat → Nat} {AR : Array Value} (C : (dc_C p s m AR meth c cNl_takeNames 6 (Option.some Jvm.ClassFile.FieldType.boolean) yNl_takeNames ∧ cf_E D K A s s.heap ∧ ∀ q, s.heap.size ≤ q → A q)) : ∀ n, IhNl_takeNames_Nl3 p l e s m below meth c A D K h0 a0 h1 a1 AR n := by
  intro n
  induction n with
  | zero => exact (fun _ _ _ _ _ r h => by cases (show none = some r from h))
  | succ n ih => exact fun x0 x1 x2 x3 x4 r h _ _ _ hP hD hS hl => bNl_takeNames_Nl3_25 C ih x0 x1 x2 x3 x4 r h hP hD hS hl
set_option maxRecDepth 100000 in
theorem mNl_takeNames_Nl3 (l : Launch) (D : va_G) (K : Nat → ClassId) (sz : Nat) (v2 : Int32) (v3 : Int32) (h0 : Nat) (a0 : Nat → Nat) (h1 : Nat) (a1 : Nat → Nat) (o0 : cf_O) (o1 : cf_O) (r : Int32 × cf_O) (h : fNl_takeNames_Nl3 v2 v3 o0 o1 = some r) : Met l yNl_takeNames (Cond.code yNl_takeNames cNl_takeNames 6 (Option.some Jvm.ClassFile.FieldType.boolean) :: cfB) ({ frames := 2, cells := 0, slots := 0, locals := 47 }) (va_Pc [.ref h0, .ref (a1 3), .int v2, .int v3] (cf_Pre D K sz (wTx K h0 a0 o0 ++ wNl K h1 a1 o1))) (va_Qi (fun (x : Int32) (_ : Unit) => x = r.1) (fun (_ : Unit) t => cf_At D (va_A (wTx K h0 a0 o0 ++ wNl K h1 a1 o1) sz) (wTx K h0 a0 o0 ++ wNl K h1 a1 r.2) t) (va_A (wTx K h0 a0 o0 ++ wNl K h1 a1 o1) sz)) 0 0 (va_A (wTx K h0 a0 o0 ++ wNl K h1 a1 o1) sz) := by
  refine cf_ofW (y := yNl_takeNames) (As := [.ref h0, .ref (a1 3), .int v2, .int v3]) (WS := wTx K h0 a0 o0 ++ wNl K h1 a1 o1) (maxL := 6) (fun A => (va_Qi (fun (x : Int32) (_ : Unit) => x = r.1) (fun (_ : Unit) t => cf_At D A (wTx K h0 a0 o0 ++ wNl K h1 a1 r.2) t) A)) (by decide) (Nat.le_of_ble_eq_true rfl) ?_
  intro p e s m below meth c A ls En hsz hA hP hD hE hS hl
  have C : (dc_C p s m (([.ref h0, .ref (a1 3), .int v2, .int v3] : List Value).toArray) meth c cNl_takeNames 6 (Option.some Jvm.ClassFile.FieldType.boolean) yNl_takeNames ∧ cf_E D K A s s.heap ∧ ∀ q, s.heap.size ≤ q → A q) := ⟨En, hE, hA⟩
  exact bNl_takeNames_Nl3_0 C (iNl_takeNames_Nl3 C cfFU) v2 v3 o0 o1 r h hP hD hS hl
def IhNl_hasTwice_Nl3 (p : Program) (l : Launch) (e : Env) (s : State) (m : MethodId) (below : List Frame) (meth : Method) (c : Code) (A : Nat → Prop) (D : va_G) (K : Nat → ClassId) (h0 : Nat) (a0 : Nat → Nat) (AR : Array Value) (n : Nat) : Prop := (∀ (v1 : Int32) (v2 : Int32) (o0 : cf_O) (r : Int32), gNl_hasTwice_Nl3 n 0 v1 v2 0 o0 = some r → ∀ {H : Heap} {locs : List Loc} {ls : Array Slot}, (va_P D vwCl (wNl K h0 a0 o0) H) → (va_D A (wNl K h0 a0 o0)) → va_S A s.heap H locs → lv_has ls 4 [(0, .ref (a0 3)), (1, .int v1), (2, .int v2)] → W p l e ({ frames := 0, cells := 0, slots := 0, locals := 0 }) s m AR below meth c H locs 0 0 (MQ below (va_Qi (fun (x : Int32) (_ : Unit) => x = r) (fun (_ : Unit) t => cf_At D A (wNl K h0 a0 o0) t) A) AR s 0 0 A) (F0 m 2 ls [])) ∧ (∀ (v1 : Int32) (v2 : Int32) (v3 : Int32) (o0 : cf_O) (r : Int32), gNl_hasTwice_Nl3 n 1 v1 v2 v3 o0 = some r → ∀ {H : Heap} {locs : List Loc} {ls : Array Slot}, (va_P D vwCl (wNl K h0 a0 o0) H) → (va_D A (wNl K h0 a0 o0)) → va_S A s.heap H locs → lv_has ls 4 [(0, .ref (a0 3)), (1, .int v1), (2, .int v2), (3, .int v3)] → W p l e ({ frames := 0, cells := 0, slots := 0, locals := 0 }) s m AR below meth c H locs 0 0 (MQ below (va_Qi (fun (x : Int32) (_ : Unit) => x = r) (fun (_ : Unit) t => cf_At D A (wNl K h0 a0 o0) t) A) AR s 0 0 A) (F0 m 9 ls []))
set_option maxHeartbeats 4000000 in
set_option maxRecDepth 100000 in
theorem bNl_hasTwice_Nl3_9 {p : Program} {l : Launch} {e : Env} {s : State} {m : MethodId} {below : List Frame} {meth : Method} {c : Code} {A : Nat → Prop} {D : va_G} {K : Nat → ClassId} {h0 : Nat} {a0 : Nat → Nat} {AR : Array Value} (C : (dc_C p s m AR meth c cNl_hasTwice 4 (Option.some Jvm.ClassFile.FieldType.boolean) yNl_hasTwice ∧ cf_E D K A s s.heap ∧ ∀ q, s.heap.size ≤ q → A q)) {n : Nat} (ih : IhNl_hasTwice_Nl3 p l e s m below meth c A D K h0 a0 AR n) (v1 : Int32) (v2 : Int32) (v3 : Int32) (o0 : cf_O) (r : Int32) (h : fNl_hasTwice_Nl3_9 (gNl_hasTwice_Nl3 n) v1 v2 v3 o0 = some r) {H : Heap} {locs : List Loc} {ls : Array Slot} (hP : va_P D vwCl (wNl K h0 a0 o0) H) (hD : va_D A (wNl K h0 a0 o0)) (hS : va_S A s.heap H locs) (hl : lv_has ls 4 [(0, .ref (a0 3)), (1, .int v1), (2, .int v2), (3, .int v3)]) : W p l e ({ frames := 0, cells := 0, slots := 0, locals := 0 }) s m AR below meth c H locs 0 0 (MQ below (va_Qi (fun (x : Int32) (_ : Unit) => x = r) (fun (_ : Unit) t => cf_At D A (wNl K h0 a0 o0) t) A) AR s 0 0 A) (F0 m 9 ls []) := by
  obtain ⟨⟨hx, hb, hr, hts, hown, hlocks, hin, hml⟩, hE, hA⟩ := id C
  have hK := hE.k
  refine lv_iload_n hx hb dNl_hasTwice_9 rfl (lv_at hl 3 rfl) ?_
  refine lv_iload_n hx hb dNl_hasTwice_10 rfl (lv_at hl 2 rfl) ?_
  refine lv_icmp_ge (tgt := 32) hx hb dNl_hasTwice_11 (by decide) (fun c_1 => ?_) (fun c_1 => ?_)
  · have h := op_t c_1 h
    obtain ⟨x_2, ex_2⟩ : ∃ y : Int32, y = v2 + 1 := ⟨_, rfl⟩
    refine lv_iinc (v := x_2) (lv' := [(2, .int x_2), (0, .ref (a0 3)), (1, .int v1), (3, .int v3)]) hx hb dNl_hasTwice_32 hl (k := 2) rfl (by rw [ex_2]; rfl) (by decide) rfl (fun ls hl => ?_)
    have h := op_ks ex_2 h
    refine lv_goto (tgt := 2) hx hb dNl_hasTwice_35 (by decide) ?_
    exact (ih.1) _ _ _ _ h hP hD hS (lv_sub hl [1, 2, 0] rfl)
  · have h := op_f c_1 h
    refine lv_aload_n hx hb dNl_hasTwice_14 rfl (lv_at hl 0 rfl) ?_
    refine lv_iload_n hx hb dNl_hasTwice_15 rfl (lv_at hl 2 rfl) ?_
    obtain ⟨hi_3, h⟩ := op_n h
    refine va_lald (D := D) hx hb hK hP 1 1 rfl rfl hi_3 dNl_hasTwice_16 ?_
    refine lv_topl (fun x_4 ex_4 => ?_)
    have h := op_ks ex_4 h
    refine lv_aload_n hx hb dNl_hasTwice_17 rfl (lv_at hl 0 rfl) ?_
    refine lv_iload_n hx hb dNl_hasTwice_18 rfl (lv_at hl 3 rfl) ?_
    obtain ⟨hi_5, h⟩ := op_n h
    refine va_lald (D := D) hx hb hK hP 1 1 rfl rfl hi_5 dNl_hasTwice_19 ?_
    refine lv_topl (fun x_6 ex_6 => ?_)
    have h := op_ks ex_6 h
    refine W.lcmp hx hb dNl_hasTwice_20 ?_
    refine lv_topi (fun x_7 ex_7 => ?_)
    have h := op_ks ex_7 h
    refine lv_if_ne (tgt := 26) hx hb dNl_hasTwice_21 (by decide) (fun c_8 => ?_) (fun c_8 => ?_)
    · have h := op_f c_8 h
      obtain ⟨x_9, ex_9⟩ : ∃ y : Int32, y = v3 + 1 := ⟨_, rfl⟩
      refine lv_iinc (v := x_9) (lv' := [(3, .int x_9), (0, .ref (a0 3)), (1, .int v1), (2, .int v2)]) hx hb dNl_hasTwice_26 hl (k := 3) rfl (by rw [ex_9]; rfl) (by decide) rfl (fun ls hl => ?_)
      have h := op_ks ex_9 h
      refine lv_goto (tgt := 9) hx hb dNl_hasTwice_29 (by decide) ?_
      exact (ih.2) _ _ _ _ _ h hP hD hS (lv_sub hl [1, 2, 3, 0] rfl)
    · have h := op_t c_8 h
      refine lv_iconst (v := 1) hx hb dNl_hasTwice_24 (by decide) ?_
      obtain rfl := Option.some.inj h
      exact dc_zret hx hb hr rfl hlocks rfl hP hD hS dNl_hasTwice_25
set_option maxHeartbeats 4000000 in
set_option maxRecDepth 100000 in
theorem bNl_hasTwice_Nl3_2 {p : Program} {l : Launch} {e : Env} {s : State} {m : MethodId} {below : List Frame} {meth : Method} {c : Code} {A : Nat → Prop} {D : va_G} {K : Nat → ClassId} {h0 : Nat} {a0 : Nat → Nat} {AR : Array Value} (C : (dc_C p s m AR meth c cNl_hasTwice 4 (Option.some Jvm.ClassFile.FieldType.boolean) yNl_hasTwice ∧ cf_E D K A s s.heap ∧ ∀ q, s.heap.size ≤ q → A q)) {n : Nat} (ih : IhNl_hasTwice_Nl3 p l e s m below meth c A D K h0 a0 AR n) (v1 : Int32) (v2 : Int32) (o0 : cf_O) (r : Int32) (h : fNl_hasTwice_Nl3_2 (gNl_hasTwice_Nl3 n) v1 v2 o0 = some r) {H : Heap} {locs : List Loc} {ls : Array Slot} (hP : va_P D vwCl (wNl K h0 a0 o0) H) (hD : va_D A (wNl K h0 a0 o0)) (hS : va_S A s.heap H locs) (hl : lv_has ls 4 [(0, .ref (a0 3)), (1, .int v1), (2, .int v2)]) : W p l e ({ frames := 0, cells := 0, slots := 0, locals := 0 }) s m AR below meth c H locs 0 0 (MQ below (va_Qi (fun (x : Int32) (_ : Unit) => x = r) (fun (_ : Unit) t => cf_At D A (wNl K h0 a0 o0) t) A) AR s 0 0 A) (F0 m 2 ls []) := by
  obtain ⟨⟨hx, hb, hr, hts, hown, hlocks, hin, hml⟩, hE, hA⟩ := id C
  have hK := hE.k
  refine lv_iload_n hx hb dNl_hasTwice_2 rfl (lv_at hl 2 rfl) ?_
  refine lv_iload_n hx hb dNl_hasTwice_3 rfl (lv_at hl 1 rfl) ?_
  refine lv_icmp_ge (tgt := 38) hx hb dNl_hasTwice_4 (by decide) (fun c_1 => ?_) (fun c_1 => ?_)
  · have h := op_t c_1 h
    refine lv_iconst (v := 0) hx hb dNl_hasTwice_38 (by decide) ?_
    obtain rfl := Option.some.inj h
    exact dc_zret hx hb hr rfl hlocks rfl hP hD hS dNl_hasTwice_39
  · have h := op_f c_1 h
    refine lv_iconst (v := 0) hx hb dNl_hasTwice_7 (by decide) ?_
    refine lv_istore_n (lv' := [(3, .int 0), (0, .ref (a0 3)), (1, .int v1), (2, .int v2)]) hx hb dNl_hasTwice_8 rfl hl (by decide) rfl (fun ls hl => ?_)
    exact (ih.2) _ _ _ _ _ h hP hD hS (lv_sub hl [1, 2, 3, 0] rfl)
set_option maxHeartbeats 4000000 in
set_option maxRecDepth 100000 in
theorem bNl_hasTwice_Nl3_0 {p : Program} {l : Launch} {e : Env} {s : State} {m : MethodId} {below : List Frame} {meth : Method} {c : Code} {A : Nat → Prop} {D : va_G} {K : Nat → ClassId} {h0 : Nat} {a0 : Nat → Nat} {AR : Array Value} (C : (dc_C p s m AR meth c cNl_hasTwice 4 (Option.some Jvm.ClassFile.FieldType.boolean) yNl_hasTwice ∧ cf_E D K A s s.heap ∧ ∀ q, s.heap.size ≤ q → A q)) {n : Nat} (ih : IhNl_hasTwice_Nl3 p l e s m below meth c A D K h0 a0 AR n) (v1 : Int32) (o0 : cf_O) (r : Int32) (h : fNl_hasTwice_Nl3_0 (gNl_hasTwice_Nl3 n) v1 o0 = some r) {H : Heap} {locs : List Loc} {ls : Array Slot} (hP : va_P D vwCl (wNl K h0 a0 o0) H) (hD : va_D A (wNl K h0 a0 o0)) (hS : va_S A s.heap H locs) (hl : lv_has ls 4 [(0, .ref (a0 3)), (1, .int v1)]) : W p l e ({ frames := 0, cells := 0, slots := 0, locals := 0 }) s m AR below meth c H locs 0 0 (MQ below (va_Qi (fun (x : Int32) (_ : Unit) => x = r) (fun (_ : Unit) t => cf_At D A (wNl K h0 a0 o0) t) A) AR s 0 0 A) (F0 m 0 ls []) := by
  obtain ⟨⟨hx, hb, hr, hts, hown, hlocks, hin, hml⟩, hE, hA⟩ := id C
  have hK := hE.k
  refine lv_iconst (v := 0) hx hb dNl_hasTwice_0 (by decide) ?_
  refine lv_istore_n (lv' := [(2, .int 0), (0, .ref (a0 3)), (1, .int v1)]) hx hb dNl_hasTwice_1 rfl hl (by decide) rfl (fun ls hl => ?_)
  exact (ih.1) _ _ _ _ h hP hD hS (lv_sub hl [1, 2, 0] rfl)
theorem iNl_hasTwice_Nl3 {p : Program} {l : Launch} {e : Env} {s : State} {m : MethodId} {below : List Frame} {meth : Method} {c : Code} {A : Nat → Prop} {D : va_G} {K : Nat → ClassId} {h0 : Nat} {a0 : Nat → Nat} {AR : Array Value} (C : (dc_C p s m AR meth c cNl_hasTwice 4 (Option.some Jvm.ClassFile.FieldType.boolean) yNl_hasTwice ∧ cf_E D K A s s.heap ∧ ∀ q, s.heap.size ≤ q → A q)) : ∀ n, IhNl_hasTwice_Nl3 p l e s m below meth c A D K h0 a0 AR n := by
  intro n
  induction n with
  | zero => exact ⟨(fun _ _ _ r h => by cases (show none = some r from h)), (fun _ _ _ _ r h => by cases (show none = some r from h))⟩
  | succ n ih => exact ⟨fun x0 x1 x2 r h _ _ _ hP hD hS hl => bNl_hasTwice_Nl3_2 C ih x0 x1 x2 r h hP hD hS hl, fun x0 x1 x2 x3 r h _ _ _ hP hD hS hl => bNl_hasTwice_Nl3_9 C ih x0 x1 x2 x3 r h hP hD hS hl⟩
set_option maxRecDepth 100000 in
theorem mNl_hasTwice_Nl3 (l : Launch) (D : va_G) (K : Nat → ClassId) (sz : Nat) (v1 : Int32) (h0 : Nat) (a0 : Nat → Nat) (o0 : cf_O) (r : Int32) (h : fNl_hasTwice_Nl3 v1 o0 = some r) : Met l yNl_hasTwice (Cond.code yNl_hasTwice cNl_hasTwice 4 (Option.some Jvm.ClassFile.FieldType.boolean) :: cfB) ({ frames := 0, cells := 0, slots := 0, locals := 0 }) (va_Pc [.ref (a0 3), .int v1] (cf_Pre D K sz (wNl K h0 a0 o0))) (va_Qi (fun (x : Int32) (_ : Unit) => x = r) (fun (_ : Unit) t => cf_At D (va_A (wNl K h0 a0 o0) sz) (wNl K h0 a0 o0) t) (va_A (wNl K h0 a0 o0) sz)) 0 0 (va_A (wNl K h0 a0 o0) sz) := by
  refine cf_ofW (y := yNl_hasTwice) (As := [.ref (a0 3), .int v1]) (WS := wNl K h0 a0 o0) (maxL := 4) (fun A => (va_Qi (fun (x : Int32) (_ : Unit) => x = r) (fun (_ : Unit) t => cf_At D A (wNl K h0 a0 o0) t) A)) (by decide) (Nat.le_of_ble_eq_true rfl) ?_
  intro p e s m below meth c A ls En hsz hA hP hD hE hS hl
  have C : (dc_C p s m (([.ref (a0 3), .int v1] : List Value).toArray) meth c cNl_hasTwice 4 (Option.some Jvm.ClassFile.FieldType.boolean) yNl_hasTwice ∧ cf_E D K A s s.heap ∧ ∀ q, s.heap.size ≤ q → A q) := ⟨En, hE, hA⟩
  exact bNl_hasTwice_Nl3_0 C (iNl_hasTwice_Nl3 C cfFU) v1 o0 r h hP hD hS hl
set_option maxHeartbeats 4000000 in
set_option maxRecDepth 100000 in
theorem bNl_scanInputs_55 {p : Program} {l : Launch} {e : Env} {s : State} {m : MethodId} {below : List Frame} {meth : Method} {c : Code} {A : Nat → Prop} {D : va_G} {K : Nat → ClassId} {h0 : Nat} {a0 : Nat → Nat} {h1 : Nat} {a1 : Nat → Nat} {AR : Array Value} (C : (dc_C p s m AR meth c cNl_scanInputs 2 (Option.some Jvm.ClassFile.FieldType.int) yNl_scanInputs ∧ cf_E D K A s s.heap ∧ ∀ q, s.heap.size ≤ q → A q)) (s0 : Int32) (o0 : cf_O) (o1 : cf_O) (r : Int32 × cf_O) (h : fNl_scanInputs_55 s0 o0 o1 = some r) {H : Heap} {locs : List Loc} {ls : Array Slot} (hP : va_P D vwCl (wNl K h0 a0 o0 ++ wTx K h1 a1 o1) H) (hD : va_D A (wNl K h0 a0 o0 ++ wTx K h1 a1 o1)) (hS : va_S A s.heap H locs) (hl : lv_has ls 2 []) : W p l e ({ frames := 5, cells := 0, slots := 0, locals := 108 }) s m AR below meth c H locs 0 0 (MQ below (va_Qi (fun (x : Int32) (_ : Unit) => x = r.1) (fun (_ : Unit) t => cf_At D A (wNl K h0 a0 r.2 ++ wTx K h1 a1 o1) t) A) AR s 0 0 A) (F0 m 55 ls [.int s0]) := by
  obtain ⟨⟨hx, hb, hr, hts, hown, hlocks, hin, hml⟩, hE, hA⟩ := id C
  have hK := hE.k
  obtain rfl := Option.some.inj h
  exact dc_iret hx hb hr hlocks rfl hP hD hS dNl_scanInputs_55
set_option maxHeartbeats 4000000 in
set_option maxRecDepth 100000 in
theorem bNl_scanInputs_24 {p : Program} {l : Launch} {e : Env} {s : State} {m : MethodId} {below : List Frame} {meth : Method} {c : Code} {A : Nat → Prop} {D : va_G} {K : Nat → ClassId} {h0 : Nat} {a0 : Nat → Nat} {h1 : Nat} {a1 : Nat → Nat} {AR : Array Value} (C : (dc_C p s m AR meth c cNl_scanInputs 2 (Option.some Jvm.ClassFile.FieldType.int) yNl_scanInputs ∧ cf_E D K A s s.heap ∧ ∀ q, s.heap.size ≤ q → A q)) (o0 : cf_O) (o1 : cf_O) (r : Int32 × cf_O) (h : fNl_scanInputs_24 o0 o1 = some r) {H : Heap} {locs : List Loc} {ls : Array Slot} (hP : va_P D vwCl (wNl K h0 a0 o0 ++ wTx K h1 a1 o1) H) (hD : va_D A (wNl K h0 a0 o0 ++ wTx K h1 a1 o1)) (hS : va_S A s.heap H locs) (hl : lv_has ls 2 []) : W p l e ({ frames := 5, cells := 0, slots := 0, locals := 108 }) s m AR below meth c H locs 0 0 (MQ below (va_Qi (fun (x : Int32) (_ : Unit) => x = r.1) (fun (_ : Unit) t => cf_At D A (wNl K h0 a0 r.2 ++ wTx K h1 a1 o1) t) A) AR s 0 0 A) (F0 m 24 ls []) := by
  obtain ⟨⟨hx, hb, hr, hts, hown, hlocks, hin, hml⟩, hE, hA⟩ := id C
  have hK := hE.k
  refine lv_iconst (v := 1) hx hb dNl_scanInputs_24 (by decide) ?_
  obtain rfl := Option.some.inj h
  exact dc_iret hx hb hr hlocks rfl hP hD hS dNl_scanInputs_25
set_option maxHeartbeats 4000000 in
set_option maxRecDepth 100000 in
theorem bNl_scanInputs_0 {p : Program} {l : Launch} {e : Env} {s : State} {m : MethodId} {below : List Frame} {meth : Method} {c : Code} {A : Nat → Prop} {D : va_G} {K : Nat → ClassId} {h0 : Nat} {a0 : Nat → Nat} {h1 : Nat} {a1 : Nat → Nat} {AR : Array Value} (C : (dc_C p s m AR meth c cNl_scanInputs 2 (Option.some Jvm.ClassFile.FieldType.int) yNl_scanInputs ∧ cf_E D K A s s.heap ∧ ∀ q, s.heap.size ≤ q → A q)) (o0 : cf_O) (o1 : cf_O) (r : Int32 × cf_O) (h : fNl_scanInputs_0 o0 o1 = some r) {H : Heap} {locs : List Loc} {ls : Array Slot} (hP : va_P D vwCl (wNl K h0 a0 o0 ++ wTx K h1 a1 o1) H) (hD : va_D A (wNl K h0 a0 o0 ++ wTx K h1 a1 o1)) (hS : va_S A s.heap H locs) (hl : lv_has ls 2 [(0, .ref h0), (1, .ref h1)]) : W p l e ({ frames := 5, cells := 0, slots := 0, locals := 108 }) s m AR below meth c H locs 0 0 (MQ below (va_Qi (fun (x : Int32) (_ : Unit) => x = r.1) (fun (_ : Unit) t => cf_At D A (wNl K h0 a0 r.2 ++ wTx K h1 a1 o1) t) A) AR s 0 0 A) (F0 m 0 ls []) := by
  obtain ⟨⟨hx, hb, hr, hts, hown, hlocks, hin, hml⟩, hE, hA⟩ := id C
  have hK := hE.k
  refine lv_aload_n hx hb dNl_scanInputs_0 rfl (lv_at hl 1 rfl) ?_
  refine lv_iconst (v := 0) hx hb dNl_scanInputs_1 (by decide) ?_
  refine va_ldcS hx hb hown (hE.s 2 rfl).1 dNl_scanInputs_2 ?_
  obtain ⟨q_1, hq_1, h⟩ := op_b h
  refine cf_calli (wc := wTx K h1 a1 o1) (wr := wNl K h0 a0 o0) (va_runV (As := [.int 0, .ref (K 102)]) (rest := []) ⟨hx, hb, hml, hown, hts⟩ (mTx_isWord_S2 l D K _ 0 h1 a1 o1 _ hq_1) (cwV 2 hts (cf_GV wv_984 wv_749 wv_750 wv_158 wv_751) rfl rfl rfl (by decide +kernel) ⟨Nat.le_of_ble_eq_true rfl, Nat.le_of_ble_eq_true rfl⟩) (cf_preV (wc := wTx K h1 a1 o1) hE hP hD hS hA rfl 13 rfl [13, 14, 15, 16] rfl (by decide +kernel)) rfl rfl hl.1 rfl (lv_room (Nat.le_of_ble_eq_true rfl)) dNl_scanInputs_4 ⟨Nat.le_of_ble_eq_true rfl, Nat.le_of_ble_eq_true rfl⟩) hP hD hS hA [13, 14, 15, 16] [0, 1, 2, 3, 4, 5, 6, 7, 8, 9, 10, 11, 12] rfl rfl (by decide +kernel) (by decide +kernel) (fun r_2 _ H locs hw_3 hP hD hS => ?_)
  subst r_2
  have hP : va_P D vwCl (wNl K h0 a0 o0 ++ wTx K h1 a1 o1) H := hP.sub [0, 1, 2, 3, 4, 5, 6, 7, 8, 9, 10, 11, 12, 13, 14, 15, 16] rfl
  have hD : va_D A (wNl K h0 a0 o0 ++ wTx K h1 a1 o1) := hD.sub [0, 1, 2, 3, 4, 5, 6, 7, 8, 9, 10, 11, 12, 13, 14, 15, 16] (by decide +kernel) rfl
  refine lv_if_eq (tgt := 24) hx hb dNl_scanInputs_7 (by decide) (fun c_4 => ?_) (fun c_4 => ?_)
  · have h := op_t c_4 h
    exact bNl_scanInputs_24 C _ _ _ h hP hD hS (lv_sub hl [] rfl)
  · have h := op_f c_4 h
    refine lv_aload_n hx hb dNl_scanInputs_10 rfl (lv_at hl 1 rfl) ?_
    refine lv_aload_n hx hb dNl_scanInputs_11 rfl (lv_at hl 0 rfl) ?_
    refine va_get (D := D) (ci := 2) (v := .ref (a0 3)) (C := RNl) (T := TNl) (N := 17) hx hb hts inNl hown hK hP 0 rfl rfl 3 (by decide) (hts _ wv_489) (fun _ h9 => h9) rfl dNl_scanInputs_12 ?_
    refine lv_iconst (v := 0) hx hb dNl_scanInputs_15 (by decide) ?_
    refine lv_bipush (v := 8) hx hb dNl_scanInputs_16 (by decide) ?_
    obtain ⟨q_5, hq_5, h⟩ := op_b h
    refine cf_calli (wc := wTx K h1 a1 o1 ++ wNl K h0 a0 o0) (wr := []) (va_runS (As := [.ref h1, .ref (a0 3), .int 0, .int 8]) (rest := []) ⟨hx, hb, hml, hown, hts⟩ (mNl_takeNames_Nl3 l D K _ 0 8 h1 a1 h0 a0 o1 o0 _ hq_5) (va_cwS 4 hts (cf_GS wv_985 wv_986 wv_170 wv_987) rfl rfl rfl (by decide +kernel) ⟨Nat.le_of_ble_eq_true rfl, Nat.le_of_ble_eq_true rfl⟩) (cf_preS (wc := wTx K h1 a1 o1 ++ wNl K h0 a0 o0) hE hP hD hS hA [13, 14, 15, 16, 0, 1, 2, 3, 4, 5, 6, 7, 8, 9, 10, 11, 12] rfl (by decide +kernel)) rfl rfl hl.1 rfl (lv_room (Nat.le_of_ble_eq_true rfl)) dNl_scanInputs_18 ⟨Nat.le_of_ble_eq_true rfl, Nat.le_of_ble_eq_true rfl⟩) hP hD hS hA [13, 14, 15, 16, 0, 1, 2, 3, 4, 5, 6, 7, 8, 9, 10, 11, 12] [] rfl rfl (by decide +kernel) (by decide +kernel) (fun r_6 _ H locs hw_7 hP hD hS => ?_)
    subst r_6
    have hP : va_P D vwCl (wNl K h0 a0 q_5.2 ++ wTx K h1 a1 o1) H := hP.sub [4, 5, 6, 7, 8, 9, 10, 11, 12, 13, 14, 15, 16, 0, 1, 2, 3] rfl
    have hD : va_D A (wNl K h0 a0 q_5.2 ++ wTx K h1 a1 o1) := hD.sub [4, 5, 6, 7, 8, 9, 10, 11, 12, 13, 14, 15, 16, 0, 1, 2, 3] (by decide +kernel) rfl
    refine lv_if_ne (tgt := 26) hx hb dNl_scanInputs_21 (by decide) (fun c_8 => ?_) (fun c_8 => ?_)
    · have h := op_f c_8 h
      refine lv_aload_n hx hb dNl_scanInputs_26 rfl (lv_at hl 0 rfl) ?_
      refine lv_aload_n hx hb dNl_scanInputs_27 rfl (lv_at hl 1 rfl) ?_
      refine va_get (D := D) (ci := 1) (v := .int (o1.1 5)) (C := RTx) (T := TTx) (N := 7) hx hb hts inTx hown hK hP 13 rfl rfl 5 (by decide) (hts _ wv_214) (fun _ h9 => h9) rfl dNl_scanInputs_28 ?_
      refine lv_iconst (v := 1) hx hb dNl_scanInputs_31 (by decide) ?_
      refine lv_isub hx hb dNl_scanInputs_32 ?_
      refine lv_topi (fun x_9 ex_9 => ?_)
      have h := op_ks ex_9 h
      refine va_put (D := D) (ci := 2) (v := .int x_9) (ty := .int) (C := RNl) (T := TNl) (N := 17) hx hb hts inNl tyNl tyokNl nmNl hown hK hP hD hS 0 rfl rfl 0 (by decide) (hts _ wv_483) (fun _ h9 => h9) rfl (by decide +kernel) rfl rfl (Nat.le_of_ble_eq_true rfl) dNl_scanInputs_33 (fun H locs hP hD hS => ?_)
      have hP : va_P D vwCl (wNl K h0 a0 (fp q_5.2 0 x_9) ++ wTx K h1 a1 o1) H := hP
      have hD : va_D A (wNl K h0 a0 (fp q_5.2 0 x_9) ++ wTx K h1 a1 o1) := hD
      obtain ⟨o_10, eo_10, h⟩ := op_kx h
      rw [← eo_10] at hP hD
      refine lv_aload_n hx hb dNl_scanInputs_36 rfl (lv_at hl 0 rfl) ?_
      refine va_get (D := D) (ci := 2) (v := .ref (a0 3)) (C := RNl) (T := TNl) (N := 17) hx hb hts inNl hown hK hP 0 rfl rfl 3 (by decide) (hts _ wv_489) (fun _ h9 => h9) rfl dNl_scanInputs_37 ?_
      refine lv_aload_n hx hb dNl_scanInputs_40 rfl (lv_at hl 0 rfl) ?_
      refine va_get (D := D) (ci := 2) (v := .int (o_10.1 0)) (C := RNl) (T := TNl) (N := 17) hx hb hts inNl hown hK hP 0 rfl rfl 0 (by decide) (hts _ wv_483) (fun _ h9 => h9) rfl dNl_scanInputs_41 ?_
      obtain ⟨q_11, hq_11, h⟩ := op_b h
      refine cf_calli (wc := wNl K h0 a0 o_10) (wr := wTx K h1 a1 o1) (va_runS (As := [.ref (a0 3), .int (o_10.1 0)]) (rest := []) ⟨hx, hb, hml, hown, hts⟩ (mNl_hasTwice_Nl3 l D K _ (o_10.1 0) h0 a0 o_10 _ hq_11) (va_cwS 2 hts (cf_GS wv_989 wv_990 wv_170 wv_991) rfl rfl rfl (by decide +kernel) ⟨Nat.le_of_ble_eq_true rfl, Nat.le_of_ble_eq_true rfl⟩) (cf_preS (wc := wNl K h0 a0 o_10) hE hP hD hS hA [0, 1, 2, 3, 4, 5, 6, 7, 8, 9, 10, 11, 12] rfl (by decide +kernel)) rfl rfl hl.1 rfl (lv_room (Nat.le_of_ble_eq_true rfl)) dNl_scanInputs_44 ⟨Nat.le_of_ble_eq_true rfl, Nat.le_of_ble_eq_true rfl⟩) hP hD hS hA [0, 1, 2, 3, 4, 5, 6, 7, 8, 9, 10, 11, 12] [13, 14, 15, 16] rfl rfl (by decide +kernel) (by decide +kernel) (fun r_12 _ H locs hw_13 hP hD hS => ?_)
      subst r_12
      have hP : va_P D vwCl (wNl K h0 a0 o_10 ++ wTx K h1 a1 o1) H := hP.sub [4, 5, 6, 7, 8, 9, 10, 11, 12, 13, 14, 15, 16, 0, 1, 2, 3] rfl
      have hD : va_D A (wNl K h0 a0 o_10 ++ wTx K h1 a1 o1) := hD.sub [4, 5, 6, 7, 8, 9, 10, 11, 12, 13, 14, 15, 16, 0, 1, 2, 3] (by decide +kernel) rfl
      refine lv_if_eq (tgt := 54) hx hb dNl_scanInputs_47 (by decide) (fun c_14 => ?_) (fun c_14 => ?_)
      · have h := op_t c_14 h
        refine lv_iconst (v := 0) hx hb dNl_scanInputs_54 (by decide) ?_
        exact bNl_scanInputs_55 C _ _ _ _ h hP hD hS (lv_sub hl [] rfl)
      · have h := op_f c_14 h
        refine lv_iconst (v := 2) hx hb dNl_scanInputs_50 (by decide) ?_
        refine lv_goto (tgt := 55) hx hb dNl_scanInputs_51 (by decide) ?_
        exact bNl_scanInputs_55 C _ _ _ _ h hP hD hS (lv_sub hl [] rfl)
    · have h := op_t c_8 h
      exact bNl_scanInputs_24 C _ _ _ h hP hD hS (lv_sub hl [] rfl)
set_option maxRecDepth 100000 in
theorem mNl_scanInputs (l : Launch) (D : va_G) (K : Nat → ClassId) (sz : Nat) (h0 : Nat) (a0 : Nat → Nat) (h1 : Nat) (a1 : Nat → Nat) (o0 : cf_O) (o1 : cf_O) (r : Int32 × cf_O) (h : fNl_scanInputs o0 o1 = some r) : Met l yNl_scanInputs (Cond.code yNl_scanInputs cNl_scanInputs 2 (Option.some Jvm.ClassFile.FieldType.int) :: cfB) ({ frames := 5, cells := 0, slots := 0, locals := 108 }) (va_Pc [.ref h0, .ref h1] (cf_Pre D K sz (wNl K h0 a0 o0 ++ wTx K h1 a1 o1))) (va_Qi (fun (x : Int32) (_ : Unit) => x = r.1) (fun (_ : Unit) t => cf_At D (va_A (wNl K h0 a0 o0 ++ wTx K h1 a1 o1) sz) (wNl K h0 a0 r.2 ++ wTx K h1 a1 o1) t) (va_A (wNl K h0 a0 o0 ++ wTx K h1 a1 o1) sz)) 0 0 (va_A (wNl K h0 a0 o0 ++ wTx K h1 a1 o1) sz) := by
  refine cf_ofW (y := yNl_scanInputs) (As := [.ref h0, .ref h1]) (WS := wNl K h0 a0 o0 ++ wTx K h1 a1 o1) (maxL := 2) (fun A => (va_Qi (fun (x : Int32) (_ : Unit) => x = r.1) (fun (_ : Unit) t => cf_At D A (wNl K h0 a0 r.2 ++ wTx K h1 a1 o1) t) A)) (by decide) (Nat.le_of_ble_eq_true rfl) ?_
  intro p e s m below meth c A ls En hsz hA hP hD hE hS hl
  have C : (dc_C p s m (([.ref h0, .ref h1] : List Value).toArray) meth c cNl_scanInputs 2 (Option.some Jvm.ClassFile.FieldType.int) yNl_scanInputs ∧ cf_E D K A s s.heap ∧ ∀ q, s.heap.size ≤ q → A q) := ⟨En, hE, hA⟩
  exact bNl_scanInputs_0 C o0 o1 r h hP hD hS hl
set_option maxHeartbeats 4000000 in
set_option maxRecDepth 100000 in
theorem bJString_coder__S3_14 {p : Program} {l : Launch} {e : Env} {s : State} {m : MethodId} {below : List Frame} {meth : Method} {c : Code} {A : Nat → Prop} {D : va_G} {K : Nat → ClassId} {AR : Array Value} (C : (dc_C p s m AR meth c cJString_coder_ 1 (Option.some Jvm.ClassFile.FieldType.byte) yJString_coder_ ∧ cf_E D K A s s.heap ∧ ∀ q, s.heap.size ≤ q → A q)) (s0 : Int32) (r : Int32) (h : fJString_coder__S3_14 s0 = some r) {H : Heap} {locs : List Loc} {ls : Array Slot} (hP : va_P D vwCl ([]) H) (hD : va_D A ([])) (hS : va_S A s.heap H locs) (hl : lv_has ls 1 []) : W p l e ({ frames := 0, cells := 0, slots := 0, locals := 0 }) s m AR below meth c H locs 0 0 (MQ below (va_Qi (fun (x : Int32) (_ : Unit) => x = r) (fun (_ : Unit) t => cf_At D A ([]) t) A) AR s 0 0 A) (F0 m 14 ls [.int s0]) := by
  obtain ⟨⟨hx, hb, hr, hts, hown, hlocks, hin, hml⟩, hE, hA⟩ := id C
  have hK := hE.k
  obtain ⟨hz_1, h⟩ := op_w h
  obtain rfl := Option.some.inj h
  exact dc_zretn hx hb hr (op_nb hz_1) hlocks rfl hP hD hS dJString_coder__14
set_option maxHeartbeats 4000000 in
set_option maxRecDepth 100000 in
theorem bJString_coder__S3_0 {p : Program} {l : Launch} {e : Env} {s : State} {m : MethodId} {below : List Frame} {meth : Method} {c : Code} {A : Nat → Prop} {D : va_G} {K : Nat → ClassId} {AR : Array Value} (C : (dc_C p s m AR meth c cJString_coder_ 1 (Option.some Jvm.ClassFile.FieldType.byte) yJString_coder_ ∧ cf_E D K A s s.heap ∧ ∀ q, s.heap.size ≤ q → A q)) (r : Int32) (h : fJString_coder__S3_0 = some r) {H : Heap} {locs : List Loc} {ls : Array Slot} (hP : va_P D vwCl ([]) H) (hD : va_D A ([])) (hS : va_S A s.heap H locs) (hl : lv_has ls 1 [(0, .ref (K 103))]) : W p l e ({ frames := 0, cells := 0, slots := 0, locals := 0 }) s m AR below meth c H locs 0 0 (MQ below (va_Qi (fun (x : Int32) (_ : Unit) => x = r) (fun (_ : Unit) t => cf_At D A ([]) t) A) AR s 0 0 A) (F0 m 0 ls []) := by
  obtain ⟨⟨hx, hb, hr, hts, hown, hlocks, hin, hml⟩, hE, hA⟩ := id C
  have hK := hE.k
  refine va_gets hx hb hE.2.2.2.2.2.2.1 hS hown (hts _ wv_764) (fun _ h9 => h9) dJString_coder__0 ?_
  refine lv_if_eq (tgt := 13) hx hb dJString_coder__3 (by decide) (fun c_1 => absurd c_1 (by decide)) (fun _ => ?_)
  refine lv_aload_n hx hb dJString_coder__6 rfl (lv_at hl 0 rfl) ?_
  refine vk_getf hx hb (hE.s 3 rfl).2.2.1 hS hown (hts _ wv_1736) (fun _ h9 => h9) dJString_coder__7 ?_
  refine lv_goto (tgt := 14) hx hb dJString_coder__10 (by decide) ?_
  exact bJString_coder__S3_14 C _ _ h hP hD hS (lv_sub hl [] rfl)
set_option maxRecDepth 100000 in
theorem mJString_coder__S3 (l : Launch) (D : va_G) (K : Nat → ClassId) (sz : Nat) (r : Int32) (h : fJString_coder__S3 = some r) : Met l yJString_coder_ (Cond.code yJString_coder_ cJString_coder_ 1 (Option.some Jvm.ClassFile.FieldType.byte) :: cfB) ({ frames := 0, cells := 0, slots := 0, locals := 0 }) (va_Pc [.ref (K 103)] (cf_Pre D K sz ([]))) (va_Qi (fun (x : Int32) (_ : Unit) => x = r) (fun (_ : Unit) t => cf_At D (va_A ([]) sz) ([]) t) (va_A ([]) sz)) 0 0 (va_A ([]) sz) := by
  refine cf_ofW (y := yJString_coder_) (As := [.ref (K 103)]) (WS := []) (maxL := 1) (fun A => (va_Qi (fun (x : Int32) (_ : Unit) => x = r) (fun (_ : Unit) t => cf_At D A ([]) t) A)) (by decide) (Nat.le_of_ble_eq_true rfl) ?_
  intro p e s m below meth c A ls En hsz hA hP hD hE hS hl
  have C : (dc_C p s m (([.ref (K 103)] : List Value).toArray) meth c cJString_coder_ 1 (Option.some Jvm.ClassFile.FieldType.byte) yJString_coder_ ∧ cf_E D K A s s.heap ∧ ∀ q, s.heap.size ≤ q → A q) := ⟨En, hE, hA⟩
  exact bJString_coder__S3_0 C r h hP hD hS hl
set_option maxHeartbeats 4000000 in
set_option maxRecDepth 100000 in
theorem bJString_length__S3_0 {p : Program} {l : Launch} {e : Env} {s : State} {m : MethodId} {below : List Frame} {meth : Method} {c : Code} {A : Nat → Prop} {D : va_G} {K : Nat → ClassId} {AR : Array Value} (C : (dc_C p s m AR meth c cJString_length_ 1 (Option.some Jvm.ClassFile.FieldType.int) yJString_length_ ∧ cf_E D K A s s.heap ∧ ∀ q, s.heap.size ≤ q → A q)) (r : Int32) (h : fJString_length__S3_0 = some r) {H : Heap} {locs : List Loc} {ls : Array Slot} (hP : va_P D vwCl ([]) H) (hD : va_D A ([])) (hS : va_S A s.heap H locs) (hl : lv_has ls 1 [(0, .ref (K 103))]) : W p l e ({ frames := 1, cells := 0, slots := 0, locals := 20 }) s m AR below meth c H locs 0 0 (MQ below (va_Qi (fun (x : Int32) (_ : Unit) => x = r) (fun (_ : Unit) t => cf_At D A ([]) t) A) AR s 0 0 A) (F0 m 0 ls []) := by
  obtain ⟨⟨hx, hb, hr, hts, hown, hlocks, hin, hml⟩, hE, hA⟩ := id C
  have hK := hE.k
  refine lv_aload_n hx hb dJString_length__0 rfl (lv_at hl 0 rfl) ?_
  refine vk_getf hx hb (hE.s 3 rfl).2.2.2.1 hS hown (hts _ wv_1735) (fun _ h9 => h9) dJString_length__1 ?_
  refine va_tlen (v := 8) hx hb (hE.s 3 rfl).2.2.2.2 hS rfl dJString_length__4 ?_
  refine lv_aload_n hx hb dJString_length__5 rfl (lv_at hl 0 rfl) ?_
  obtain ⟨q_1, hq_1, h⟩ := op_b h
  refine cf_calli (wc := []) (wr := []) (va_runV (As := []) (rest := [.int 8]) ⟨hx, hb, hml, hown, hts⟩ (mJString_coder__S3 l D K _ _ hq_1) (cwV 0 hts (cf_GV wv_760 wv_761 wv_762 wv_168 wv_763) rfl rfl rfl (by decide +kernel) ⟨Nat.le_of_ble_eq_true rfl, Nat.le_of_ble_eq_true rfl⟩) (cf_preO (wc := []) (hE.s 3 rfl).2.1 hE hP hD hS hA [] rfl (by decide +kernel)) rfl rfl hl.1 rfl (lv_room (Nat.le_of_ble_eq_true rfl)) dJString_length__6 ⟨Nat.le_of_ble_eq_true rfl, Nat.le_of_ble_eq_true rfl⟩) hP hD hS hA [] [] rfl rfl (by decide +kernel) (by decide +kernel) (fun r_2 _ H locs hw_3 hP hD hS => ?_)
  subst r_2
  have hP : va_P D vwCl ([]) H := hP.sub [] rfl
  have hD : va_D A ([]) := hD.sub [] (by decide +kernel) rfl
  refine lv_ishr hx hb dJString_length__9 ?_
  refine lv_topi (fun x_4 ex_4 => ?_)
  have h := op_ks ex_4 h
  obtain rfl := Option.some.inj h
  exact dc_iret hx hb hr hlocks rfl hP hD hS dJString_length__10
set_option maxRecDepth 100000 in
theorem mJString_length__S3 (l : Launch) (D : va_G) (K : Nat → ClassId) (sz : Nat) (r : Int32) (h : fJString_length__S3 = some r) : Met l yJString_length_ (Cond.code yJString_length_ cJString_length_ 1 (Option.some Jvm.ClassFile.FieldType.int) :: cfB) ({ frames := 1, cells := 0, slots := 0, locals := 20 }) (va_Pc [.ref (K 103)] (cf_Pre D K sz ([]))) (va_Qi (fun (x : Int32) (_ : Unit) => x = r) (fun (_ : Unit) t => cf_At D (va_A ([]) sz) ([]) t) (va_A ([]) sz)) 0 0 (va_A ([]) sz) := by
  refine cf_ofW (y := yJString_length_) (As := [.ref (K 103)]) (WS := []) (maxL := 1) (fun A => (va_Qi (fun (x : Int32) (_ : Unit) => x = r) (fun (_ : Unit) t => cf_At D A ([]) t) A)) (by decide) (Nat.le_of_ble_eq_true rfl) ?_
  intro p e s m below meth c A ls En hsz hA hP hD hE hS hl
  have C : (dc_C p s m (([.ref (K 103)] : List Value).toArray) meth c cJString_length_ 1 (Option.some Jvm.ClassFile.FieldType.int) yJString_length_ ∧ cf_E D K A s s.heap ∧ ∀ q, s.heap.size ≤ q → A q) := ⟨En, hE, hA⟩
  exact bJString_length__S3_0 C r h hP hD hS hl
set_option maxHeartbeats 4000000 in
set_option maxRecDepth 100000 in
theorem bJString_isLatin1__S3_18 {p : Program} {l : Launch} {e : Env} {s : State} {m : MethodId} {below : List Frame} {meth : Method} {c : Code} {A : Nat → Prop} {D : va_G} {K : Nat → ClassId} {AR : Array Value} (C : (dc_C p s m AR meth c cJString_isLatin1_ 1 (Option.some Jvm.ClassFile.FieldType.boolean) yJString_isLatin1_ ∧ cf_E D K A s s.heap ∧ ∀ q, s.heap.size ≤ q → A q)) (s0 : Int32) (r : Int32) (h : fJString_isLatin1__S3_18 s0 = some r) {H : Heap} {locs : List Loc} {ls : Array Slot} (hP : va_P D vwCl ([]) H) (hD : va_D A ([])) (hS : va_S A s.heap H locs) (hl : lv_has ls 1 []) : W p l e ({ frames := 0, cells := 0, slots := 0, locals := 0 }) s m AR below meth c H locs 0 0 (MQ below (va_Qi (fun (x : Int32) (_ : Unit) => x = r) (fun (_ : Unit) t => cf_At D A ([]) t) A) AR s 0 0 A) (F0 m 18 ls [.int s0]) := by
  obtain ⟨⟨hx, hb, hr, hts, hown, hlocks, hin, hml⟩, hE, hA⟩ := id C
  have hK := hE.k
  obtain ⟨hz_1, h⟩ := op_w h
  obtain rfl := Option.some.inj h
  exact dc_zret hx hb hr (op_z hz_1) hlocks rfl hP hD hS dJString_isLatin1__18
set_option maxHeartbeats 4000000 in
set_option maxRecDepth 100000 in
theorem bJString_isLatin1__S3_17 {p : Program} {l : Launch} {e : Env} {s : State} {m : MethodId} {below : List Frame} {meth : Method} {c : Code} {A : Nat → Prop} {D : va_G} {K : Nat → ClassId} {AR : Array Value} (C : (dc_C p s m AR meth c cJString_isLatin1_ 1 (Option.some Jvm.ClassFile.FieldType.boolean) yJString_isLatin1_ ∧ cf_E D K A s s.heap ∧ ∀ q, s.heap.size ≤ q → A q)) (r : Int32) (h : fJString_isLatin1__S3_17 = some r) {H : Heap} {locs : List Loc} {ls : Array Slot} (hP : va_P D vwCl ([]) H) (hD : va_D A ([])) (hS : va_S A s.heap H locs) (hl : lv_has ls 1 []) : W p l e ({ frames := 0, cells := 0, slots := 0, locals := 0 }) s m AR below meth c H locs 0 0 (MQ below (va_Qi (fun (x : Int32) (_ : Unit) => x = r) (fun (_ : Unit) t => cf_At D A ([]) t) A) AR s 0 0 A) (F0 m 17 ls []) := by
  obtain ⟨⟨hx, hb, hr, hts, hown, hlocks, hin, hml⟩, hE, hA⟩ := id C
  have hK := hE.k
  refine lv_iconst (v := 0) hx hb dJString_isLatin1__17 (by decide) ?_
  exact bJString_isLatin1__S3_18 C _ _ h hP hD hS (lv_sub hl [] rfl)
set_option maxHeartbeats 4000000 in
set_option maxRecDepth 100000 in
theorem bJString_isLatin1__S3_0 {p : Program} {l : Launch} {e : Env} {s : State} {m : MethodId} {below : List Frame} {meth : Method} {c : Code} {A : Nat → Prop} {D : va_G} {K : Nat → ClassId} {AR : Array Value} (C : (dc_C p s m AR meth c cJString_isLatin1_ 1 (Option.some Jvm.ClassFile.FieldType.boolean) yJString_isLatin1_ ∧ cf_E D K A s s.heap ∧ ∀ q, s.heap.size ≤ q → A q)) (r : Int32) (h : fJString_isLatin1__S3_0 = some r) {H : Heap} {locs : List Loc} {ls : Array Slot} (hP : va_P D vwCl ([]) H) (hD : va_D A ([])) (hS : va_S A s.heap H locs) (hl : lv_has ls 1 [(0, .ref (K 103))]) : W p l e ({ frames := 0, cells := 0, slots := 0, locals := 0 }) s m AR below meth c H locs 0 0 (MQ below (va_Qi (fun (x : Int32) (_ : Unit) => x = r) (fun (_ : Unit) t => cf_At D A ([]) t) A) AR s 0 0 A) (F0 m 0 ls []) := by
  obtain ⟨⟨hx, hb, hr, hts, hown, hlocks, hin, hml⟩, hE, hA⟩ := id C
  have hK := hE.k
  refine va_gets hx hb hE.2.2.2.2.2.2.1 hS hown (hts _ wv_764) (fun _ h9 => h9) dJString_isLatin1__0 ?_
  refine lv_if_eq (tgt := 17) hx hb dJString_isLatin1__3 (by decide) (fun c_1 => absurd c_1 (by decide)) (fun _ => ?_)
  refine lv_aload_n hx hb dJString_isLatin1__6 rfl (lv_at hl 0 rfl) ?_
  refine vk_getf hx hb (hE.s 3 rfl).2.2.1 hS hown (hts _ wv_1736) (fun _ h9 => h9) dJString_isLatin1__7 ?_
  refine lv_if_ne (tgt := 17) hx hb dJString_isLatin1__10 (by decide) (fun c_2 => absurd (by decide) c_2) (fun _ => ?_)
  refine lv_iconst (v := 1) hx hb dJString_isLatin1__13 (by decide) ?_
  refine lv_goto (tgt := 18) hx hb dJString_isLatin1__14 (by decide) ?_
  exact bJString_isLatin1__S3_18 C _ _ h hP hD hS (lv_sub hl [] rfl)
set_option maxRecDepth 100000 in
theorem mJString_isLatin1__S3 (l : Launch) (D : va_G) (K : Nat → ClassId) (sz : Nat) (r : Int32) (h : fJString_isLatin1__S3 = some r) : Met l yJString_isLatin1_ (Cond.code yJString_isLatin1_ cJString_isLatin1_ 1 (Option.some Jvm.ClassFile.FieldType.boolean) :: cfB) ({ frames := 0, cells := 0, slots := 0, locals := 0 }) (va_Pc [.ref (K 103)] (cf_Pre D K sz ([]))) (va_Qi (fun (x : Int32) (_ : Unit) => x = r) (fun (_ : Unit) t => cf_At D (va_A ([]) sz) ([]) t) (va_A ([]) sz)) 0 0 (va_A ([]) sz) := by
  refine cf_ofW (y := yJString_isLatin1_) (As := [.ref (K 103)]) (WS := []) (maxL := 1) (fun A => (va_Qi (fun (x : Int32) (_ : Unit) => x = r) (fun (_ : Unit) t => cf_At D A ([]) t) A)) (by decide) (Nat.le_of_ble_eq_true rfl) ?_
  intro p e s m below meth c A ls En hsz hA hP hD hE hS hl
  have C : (dc_C p s m (([.ref (K 103)] : List Value).toArray) meth c cJString_isLatin1_ 1 (Option.some Jvm.ClassFile.FieldType.boolean) yJString_isLatin1_ ∧ cf_E D K A s s.heap ∧ ∀ q, s.heap.size ≤ q → A q) := ⟨En, hE, hA⟩
  exact bJString_isLatin1__S3_0 C r h hP hD hS hl
set_option maxHeartbeats 4000000 in
set_option maxRecDepth 100000 in
theorem bJStringLatin1_charAt_ABI_B3_0 {p : Program} {l : Launch} {e : Env} {s : State} {m : MethodId} {below : List Frame} {meth : Method} {c : Code} {A : Nat → Prop} {D : va_G} {K : Nat → ClassId} {AR : Array Value} (C : (dc_C p s m AR meth c cJStringLatin1_charAt_ABI 2 (Option.some Jvm.ClassFile.FieldType.char) yJStringLatin1_charAt_ABI ∧ cf_E D K A s s.heap ∧ ∀ q, s.heap.size ≤ q → A q)) (v1 : Int32) (r : Int32) (h : fJStringLatin1_charAt_ABI_B3_0 v1 = some r) {H : Heap} {locs : List Loc} {ls : Array Slot} (hP : va_P D vwCl ([]) H) (hD : va_D A ([])) (hS : va_S A s.heap H locs) (hl : lv_has ls 2 [(0, .ref (K 203)), (1, .int v1)]) : W p l e ({ frames := 2, cells := 0, slots := 0, locals := 43 }) s m AR below meth c H locs 0 0 (MQ below (va_Qi (fun (x : Int32) (_ : Unit) => x = r) (fun (_ : Unit) t => cf_At D A ([]) t) A) AR s 0 0 A) (F0 m 0 ls []) := by
  obtain ⟨⟨hx, hb, hr, hts, hown, hlocks, hin, hml⟩, hE, hA⟩ := id C
  have hK := hE.k
  refine lv_iload_n hx hb dJStringLatin1_charAt_ABI_0 rfl (lv_at hl 1 rfl) ?_
  refine lv_aload_n hx hb dJStringLatin1_charAt_ABI_1 rfl (lv_at hl 0 rfl) ?_
  refine va_tlen (v := 8) hx hb (hE.s 3 rfl).2.2.2.2 hS rfl dJStringLatin1_charAt_ABI_2 ?_
  obtain ⟨q_1, hq_1, h⟩ := op_b h
  refine dc_callv (va_runS (As := [.int v1, .int 8]) (rest := []) ⟨hx, hb, hml, hown, hts⟩ (mJString_checkIndex_II l D K _ v1 8 _ hq_1) (va_cwS 2 hts (cf_GS wv_780 wv_781 wv_168 wv_782) rfl rfl rfl (by decide +kernel) ⟨Nat.le_of_ble_eq_true rfl, Nat.le_of_ble_eq_true rfl⟩) (dc_preS hE hP hD hS hA) rfl rfl hl.1 rfl (lv_room (Nat.le_of_ble_eq_true rfl)) dJStringLatin1_charAt_ABI_3 ⟨Nat.le_of_ble_eq_true rfl, Nat.le_of_ble_eq_true rfl⟩) hP hD hS hA (fun H locs hP hD hS => ?_)
  refine lv_aload_n hx hb dJStringLatin1_charAt_ABI_6 rfl (lv_at hl 0 rfl) ?_
  refine lv_iload_n hx hb dJStringLatin1_charAt_ABI_7 rfl (lv_at hl 1 rfl) ?_
  obtain ⟨hi_3, h⟩ := op_n h
  refine va_tb hx hb (hE.s 3 rfl).2.2.2.2 hS (i := v1) hi_3 (v := .int (cf_sb 3 v1.toNatClampNeg)) rfl dJStringLatin1_charAt_ABI_8 ?_
  refine lv_topi (fun x_4 ex_4 => ?_)
  have h := op_ks ex_4 h
  refine lv_sipush (v := 255) hx hb dJStringLatin1_charAt_ABI_9 (by decide) ?_
  refine lv_iand hx hb dJStringLatin1_charAt_ABI_12 ?_
  refine lv_topi (fun x_5 ex_5 => ?_)
  have h := op_ks ex_5 h
  refine lv_i2c hx hb dJStringLatin1_charAt_ABI_13 rfl ?_
  refine lv_topi (fun x_6 ex_6 => ?_)
  have h := op_ks ex_6 h
  obtain ⟨hz_7, h⟩ := op_w h
  obtain rfl := Option.some.inj h
  exact dc_zretn hx hb hr (op_nc hz_7) hlocks rfl hP hD hS dJStringLatin1_charAt_ABI_14
set_option maxRecDepth 100000 in
theorem mJStringLatin1_charAt_ABI_B3 (l : Launch) (D : va_G) (K : Nat → ClassId) (sz : Nat) (v1 : Int32) (r : Int32) (h : fJStringLatin1_charAt_ABI_B3 v1 = some r) : Met l yJStringLatin1_charAt_ABI (Cond.code yJStringLatin1_charAt_ABI cJStringLatin1_charAt_ABI 2 (Option.some Jvm.ClassFile.FieldType.char) :: cfB) ({ frames := 2, cells := 0, slots := 0, locals := 43 }) (va_Pc [.ref (K 203), .int v1] (cf_Pre D K sz ([]))) (va_Qi (fun (x : Int32) (_ : Unit) => x = r) (fun (_ : Unit) t => cf_At D (va_A ([]) sz) ([]) t) (va_A ([]) sz)) 0 0 (va_A ([]) sz) := by
  refine cf_ofW (y := yJStringLatin1_charAt_ABI) (As := [.ref (K 203), .int v1]) (WS := []) (maxL := 2) (fun A => (va_Qi (fun (x : Int32) (_ : Unit) => x = r) (fun (_ : Unit) t => cf_At D A ([]) t) A)) (by decide) (Nat.le_of_ble_eq_true rfl) ?_
  intro p e s m below meth c A ls En hsz hA hP hD hE hS hl
  have C : (dc_C p s m (([.ref (K 203), .int v1] : List Value).toArray) meth c cJStringLatin1_charAt_ABI 2 (Option.some Jvm.ClassFile.FieldType.char) yJStringLatin1_charAt_ABI ∧ cf_E D K A s s.heap ∧ ∀ q, s.heap.size ≤ q → A q) := ⟨En, hE, hA⟩
  exact bJStringLatin1_charAt_ABI_B3_0 C v1 r h hP hD hS hl
set_option maxHeartbeats 4000000 in
set_option maxRecDepth 100000 in
theorem bJString_charAt_I_S3_0 {p : Program} {l : Launch} {e : Env} {s : State} {m : MethodId} {below : List Frame} {meth : Method} {c : Code} {A : Nat → Prop} {D : va_G} {K : Nat → ClassId} {AR : Array Value} (C : (dc_C p s m AR meth c cJString_charAt_I 2 (Option.some Jvm.ClassFile.FieldType.char) yJString_charAt_I ∧ cf_E D K A s s.heap ∧ ∀ q, s.heap.size ≤ q → A q)) (v1 : Int32) (r : Int32) (h : fJString_charAt_I_S3_0 v1 = some r) {H : Heap} {locs : List Loc} {ls : Array Slot} (hP : va_P D vwCl ([]) H) (hD : va_D A ([])) (hS : va_S A s.heap H locs) (hl : lv_has ls 2 [(0, .ref (K 103)), (1, .int v1)]) : W p l e ({ frames := 3, cells := 0, slots := 0, locals := 64 }) s m AR below meth c H locs 0 0 (MQ below (va_Qi (fun (x : Int32) (_ : Unit) => x = r) (fun (_ : Unit) t => cf_At D A ([]) t) A) AR s 0 0 A) (F0 m 0 ls []) := by
  obtain ⟨⟨hx, hb, hr, hts, hown, hlocks, hin, hml⟩, hE, hA⟩ := id C
  have hK := hE.k
  refine lv_aload_n hx hb dJString_charAt_I_0 rfl (lv_at hl 0 rfl) ?_
  obtain ⟨q_1, hq_1, h⟩ := op_b h
  refine cf_calli (wc := []) (wr := []) (va_runV (As := []) (rest := []) ⟨hx, hb, hml, hown, hts⟩ (mJString_isLatin1__S3 l D K _ _ hq_1) (cwV 0 hts (cf_GV wv_773 wv_774 wv_775 wv_168 wv_776) rfl rfl rfl (by decide +kernel) ⟨Nat.le_of_ble_eq_true rfl, Nat.le_of_ble_eq_true rfl⟩) (cf_preO (wc := []) (hE.s 3 rfl).2.1 hE hP hD hS hA [] rfl (by decide +kernel)) rfl rfl hl.1 rfl (lv_room (Nat.le_of_ble_eq_true rfl)) dJString_charAt_I_1 ⟨Nat.le_of_ble_eq_true rfl, Nat.le_of_ble_eq_true rfl⟩) hP hD hS hA [] [] rfl rfl (by decide +kernel) (by decide +kernel) (fun r_2 _ H locs hw_3 hP hD hS => ?_)
  subst r_2
  have hP : va_P D vwCl ([]) H := hP.sub [] rfl
  have hD : va_D A ([]) := hD.sub [] (by decide +kernel) rfl
  refine lv_if_eq (tgt := 16) hx hb dJString_charAt_I_4 (by decide) (fun c_4 => ?_) (fun c_4 => ?_)
  · have h := op_t c_4 h
    refine lv_aload_n hx hb dJString_charAt_I_16 rfl (lv_at hl 0 rfl) ?_
    refine vk_getf hx hb (hE.s 3 rfl).2.2.2.1 hS hown (hts _ wv_1735) (fun _ h9 => h9) dJString_charAt_I_17 ?_
    refine lv_iload_n hx hb dJString_charAt_I_20 rfl (lv_at hl 1 rfl) ?_
    cases h
  · have h := op_f c_4 h
    refine lv_aload_n hx hb dJString_charAt_I_7 rfl (lv_at hl 0 rfl) ?_
    refine vk_getf hx hb (hE.s 3 rfl).2.2.2.1 hS hown (hts _ wv_1735) (fun _ h9 => h9) dJString_charAt_I_8 ?_
    refine lv_iload_n hx hb dJString_charAt_I_11 rfl (lv_at hl 1 rfl) ?_
    obtain ⟨q_5, hq_5, h⟩ := op_b h
    refine dc_calli (va_runS (As := [.ref (K 203), .int v1]) (rest := []) ⟨hx, hb, hml, hown, hts⟩ (mJStringLatin1_charAt_ABI_B3 l D K _ v1 _ hq_5) (va_cwS 2 hts (cf_GS wv_777 wv_778 wv_179 wv_779) rfl rfl rfl (by decide +kernel) ⟨Nat.le_of_ble_eq_true rfl, Nat.le_of_ble_eq_true rfl⟩) (dc_preS hE hP hD hS hA) rfl rfl hl.1 rfl (lv_room (Nat.le_of_ble_eq_true rfl)) dJString_charAt_I_12 ⟨Nat.le_of_ble_eq_true rfl, Nat.le_of_ble_eq_true rfl⟩) hP hD hS hA (fun r_6 H locs hw_7 hP hD hS => ?_)
    subst r_6
    obtain ⟨hz_8, h⟩ := op_w h
    obtain rfl := Option.some.inj h
    exact dc_zretn hx hb hr (op_nc hz_8) hlocks rfl hP hD hS dJString_charAt_I_15
set_option maxRecDepth 100000 in
theorem mJString_charAt_I_S3 (l : Launch) (D : va_G) (K : Nat → ClassId) (sz : Nat) (v1 : Int32) (r : Int32) (h : fJString_charAt_I_S3 v1 = some r) : Met l yJString_charAt_I (Cond.code yJString_charAt_I cJString_charAt_I 2 (Option.some Jvm.ClassFile.FieldType.char) :: cfB) ({ frames := 3, cells := 0, slots := 0, locals := 64 }) (va_Pc [.ref (K 103), .int v1] (cf_Pre D K sz ([]))) (va_Qi (fun (x : Int32) (_ : Unit) => x = r) (fun (_ : Unit) t => cf_At D (va_A ([]) sz) ([]) t) (va_A ([]) sz)) 0 0 (va_A ([]) sz) := by
  refine cf_ofW (y := yJString_charAt_I) (As := [.ref (K 103), .int v1]) (WS := []) (maxL := 2) (fun A => (va_Qi (fun (x : Int32) (_ : Unit) => x = r) (fun (_ : Unit) t => cf_At D A ([]) t) A)) (by decide) (Nat.le_of_ble_eq_true rfl) ?_
  intro p e s m below meth c A ls En hsz hA hP hD hE hS hl
  have C : (dc_C p s m (([.ref (K 103), .int v1] : List Value).toArray) meth c cJString_charAt_I 2 (Option.some Jvm.ClassFile.FieldType.char) yJString_charAt_I ∧ cf_E D K A s s.heap ∧ ∀ q, s.heap.size ≤ q → A q) := ⟨En, hE, hA⟩
  exact bJString_charAt_I_S3_0 C v1 r h hP hD hS hl
def IhTx_isWord_S3 (p : Program) (l : Launch) (e : Env) (s : State) (m : MethodId) (below : List Frame) (meth : Method) (c : Code) (A : Nat → Prop) (D : va_G) (K : Nat → ClassId) (h0 : Nat) (a0 : Nat → Nat) (AR : Array Value) (n : Nat) : Prop := (∀ (v1 : Int32) (v3 : Int32) (o0 : cf_O) (r : Int32), gTx_isWord_S3 n 0 v1 v3 o0 = some r → ∀ {H : Heap} {locs : List Loc} {ls : Array Slot}, (va_P D vwCl (wTx K h0 a0 o0) H) → (va_D A (wTx K h0 a0 o0)) → va_S A s.heap H locs → lv_has ls 4 [(0, .ref h0), (1, .int v1), (2, .ref (K 103)), (3, .int v3)] → W p l e ({ frames := 4, cells := 0, slots := 0, locals := 85 }) s m AR below meth c H locs 0 0 (MQ below (va_Qi (fun (x : Int32) (_ : Unit) => x = r) (fun (_ : Unit) t => cf_At D A (wTx K h0 a0 o0) t) A) AR s 0 0 A) (F0 m 16 ls []))
set_option maxHeartbeats 4000000 in
set_option maxRecDepth 100000 in
theorem bTx_isWord_S3_16 {p : Program} {l : Launch} {e : Env} {s : State} {m : MethodId} {below : List Frame} {meth : Method} {c : Code} {A : Nat → Prop} {D : va_G} {K : Nat → ClassId} {h0 : Nat} {a0 : Nat → Nat} {AR : Array Value} (C : (dc_C p s m AR meth c cTx_isWord 4 (Option.some Jvm.ClassFile.FieldType.boolean) yTx_isWord ∧ cf_E D K A s s.heap ∧ ∀ q, s.heap.size ≤ q → A q)) {n : Nat} (ih : IhTx_isWord_S3 p l e s m below meth c A D K h0 a0 AR n) (v1 : Int32) (v3 : Int32) (o0 : cf_O) (r : Int32) (h : fTx_isWord_S3_16 (gTx_isWord_S3 n) v1 v3 o0 = some r) {H : Heap} {locs : List Loc} {ls : Array Slot} (hP : va_P D vwCl (wTx K h0 a0 o0) H) (hD : va_D A (wTx K h0 a0 o0)) (hS : va_S A s.heap H locs) (hl : lv_has ls 4 [(0, .ref h0), (1, .int v1), (2, .ref (K 103)), (3, .int v3)]) : W p l e ({ frames := 4, cells := 0, slots := 0, locals := 85 }) s m AR below meth c H locs 0 0 (MQ below (va_Qi (fun (x : Int32) (_ : Unit) => x = r) (fun (_ : Unit) t => cf_At D A (wTx K h0 a0 o0) t) A) AR s 0 0 A) (F0 m 16 ls []) := by
  obtain ⟨⟨hx, hb, hr, hts, hown, hlocks, hin, hml⟩, hE, hA⟩ := id C
  have hK := hE.k
  refine lv_iload_n hx hb dTx_isWord_16 rfl (lv_at hl 3 rfl) ?_
  refine lv_aload_n hx hb dTx_isWord_17 rfl (lv_at hl 2 rfl) ?_
  obtain ⟨q_1, hq_1, h⟩ := op_b h
  refine cf_calli (wc := []) (wr := wTx K h0 a0 o0) (va_runV (As := []) (rest := [.int v3]) ⟨hx, hb, hml, hown, hts⟩ (mJString_length__S3 l D K _ _ hq_1) (cwV 0 hts (cf_GV wv_756 wv_757 wv_758 wv_168 wv_759) rfl rfl rfl (by decide +kernel) ⟨Nat.le_of_ble_eq_true rfl, Nat.le_of_ble_eq_true rfl⟩) (cf_preO (wc := []) (hE.s 3 rfl).2.1 hE hP hD hS hA [] rfl (by decide +kernel)) rfl rfl hl.1 rfl (lv_room (Nat.le_of_ble_eq_true rfl)) dTx_isWord_18 ⟨Nat.le_of_ble_eq_true rfl, Nat.le_of_ble_eq_true rfl⟩) hP hD hS hA [] [0, 1, 2, 3] rfl rfl (by decide +kernel) (by decide +kernel) (fun r_2 _ H locs hw_3 hP hD hS => ?_)
  subst r_2
  have hP : va_P D vwCl (wTx K h0 a0 o0) H := hP.sub [0, 1, 2, 3] rfl
  have hD : va_D A (wTx K h0 a0 o0) := hD.sub [0, 1, 2, 3] (by decide +kernel) rfl
  refine lv_icmp_ge (tgt := 46) hx hb dTx_isWord_21 (by decide) (fun c_4 => ?_) (fun c_4 => ?_)
  · have h := op_t c_4 h
    refine lv_iconst (v := 1) hx hb dTx_isWord_46 (by decide) ?_
    obtain rfl := Option.some.inj h
    exact dc_zret hx hb hr rfl hlocks rfl hP hD hS dTx_isWord_47
  · have h := op_f c_4 h
    refine lv_aload_n hx hb dTx_isWord_24 rfl (lv_at hl 0 rfl) ?_
    refine lv_iload_n hx hb dTx_isWord_25 rfl (lv_at hl 1 rfl) ?_
    refine lv_iload_n hx hb dTx_isWord_26 rfl (lv_at hl 3 rfl) ?_
    obtain ⟨q_5, hq_5, h⟩ := op_b h
    refine dc_calli (va_runV (As := [.int v1, .int v3]) (rest := []) ⟨hx, hb, hml, hown, hts⟩ (mTx_signOf l D K _ v1 v3 h0 a0 o0 _ hq_5) (cwV 2 hts (cf_GV wv_765 wv_766 wv_767 wv_158 wv_768) rfl rfl rfl (by decide +kernel) ⟨Nat.le_of_ble_eq_true rfl, Nat.le_of_ble_eq_true rfl⟩) (dc_preV hE hP hD hS hA rfl 0 rfl) rfl rfl hl.1 rfl (lv_room (Nat.le_of_ble_eq_true rfl)) dTx_isWord_27 ⟨Nat.le_of_ble_eq_true rfl, Nat.le_of_ble_eq_true rfl⟩) hP hD hS hA (fun r_6 H locs hw_7 hP hD hS => ?_)
    subst r_6
    refine lv_aload_n hx hb dTx_isWord_30 rfl (lv_at hl 2 rfl) ?_
    refine lv_iload_n hx hb dTx_isWord_31 rfl (lv_at hl 3 rfl) ?_
    obtain ⟨q_8, hq_8, h⟩ := op_b h
    refine cf_calli (wc := []) (wr := wTx K h0 a0 o0) (va_runV (As := [.int v3]) (rest := [.int q_5]) ⟨hx, hb, hml, hown, hts⟩ (mJString_charAt_I_S3 l D K _ v3 _ hq_8) (cwV 1 hts (cf_GV wv_769 wv_770 wv_771 wv_168 wv_772) rfl rfl rfl (by decide +kernel) ⟨Nat.le_of_ble_eq_true rfl, Nat.le_of_ble_eq_true rfl⟩) (cf_preO (wc := []) (hE.s 3 rfl).2.1 hE hP hD hS hA [] rfl (by decide +kernel)) rfl rfl hl.1 rfl (lv_room (Nat.le_of_ble_eq_true rfl)) dTx_isWord_32 ⟨Nat.le_of_ble_eq_true rfl, Nat.le_of_ble_eq_true rfl⟩) hP hD hS hA [] [0, 1, 2, 3] rfl rfl (by decide +kernel) (by decide +kernel) (fun r_9 _ H locs hw_10 hP hD hS => ?_)
    subst r_9
    have hP : va_P D vwCl (wTx K h0 a0 o0) H := hP.sub [0, 1, 2, 3] rfl
    have hD : va_D A (wTx K h0 a0 o0) := hD.sub [0, 1, 2, 3] (by decide +kernel) rfl
    refine lv_icmp_eq (tgt := 40) hx hb dTx_isWord_35 (by decide) (fun c_11 => ?_) (fun c_11 => ?_)
    · have h := op_t c_11 h
      obtain ⟨x_12, ex_12⟩ : ∃ y : Int32, y = v3 + 1 := ⟨_, rfl⟩
      refine lv_iinc (v := x_12) (lv' := [(3, .int x_12), (0, .ref h0), (1, .int v1), (2, .ref (K 103))]) hx hb dTx_isWord_40 hl (k := 3) rfl (by rw [ex_12]; rfl) (by decide) rfl (fun ls hl => ?_)
      have h := op_ks ex_12 h
      refine lv_goto (tgt := 16) hx hb dTx_isWord_43 (by decide) ?_
      exact (ih) _ _ _ _ h hP hD hS (lv_sub hl [1, 2, 3, 0] rfl)
    · have h := op_f c_11 h
      refine lv_iconst (v := 0) hx hb dTx_isWord_38 (by decide) ?_
      obtain rfl := Option.some.inj h
      exact dc_zret hx hb hr rfl hlocks rfl hP hD hS dTx_isWord_39
set_option maxHeartbeats 4000000 in
set_option maxRecDepth 100000 in
theorem bTx_isWord_S3_0 {p : Program} {l : Launch} {e : Env} {s : State} {m : MethodId} {below : List Frame} {meth : Method} {c : Code} {A : Nat → Prop} {D : va_G} {K : Nat → ClassId} {h0 : Nat} {a0 : Nat → Nat} {AR : Array Value} (C : (dc_C p s m AR meth c cTx_isWord 4 (Option.some Jvm.ClassFile.FieldType.boolean) yTx_isWord ∧ cf_E D K A s s.heap ∧ ∀ q, s.heap.size ≤ q → A q)) {n : Nat} (ih : IhTx_isWord_S3 p l e s m below meth c A D K h0 a0 AR n) (v1 : Int32) (o0 : cf_O) (r : Int32) (h : fTx_isWord_S3_0 (gTx_isWord_S3 n) v1 o0 = some r) {H : Heap} {locs : List Loc} {ls : Array Slot} (hP : va_P D vwCl (wTx K h0 a0 o0) H) (hD : va_D A (wTx K h0 a0 o0)) (hS : va_S A s.heap H locs) (hl : lv_has ls 4 [(0, .ref h0), (1, .int v1), (2, .ref (K 103))]) : W p l e ({ frames := 4, cells := 0, slots := 0, locals := 85 }) s m AR below meth c H locs 0 0 (MQ below (va_Qi (fun (x : Int32) (_ : Unit) => x = r) (fun (_ : Unit) t => cf_At D A (wTx K h0 a0 o0) t) A) AR s 0 0 A) (F0 m 0 ls []) := by
  obtain ⟨⟨hx, hb, hr, hts, hown, hlocks, hin, hml⟩, hE, hA⟩ := id C
  have hK := hE.k
  refine lv_aload_n hx hb dTx_isWord_0 rfl (lv_at hl 0 rfl) ?_
  refine lv_iload_n hx hb dTx_isWord_1 rfl (lv_at hl 1 rfl) ?_
  obtain ⟨q_1, hq_1, h⟩ := op_b h
  refine dc_calli (va_runV (As := [.int v1]) (rest := []) ⟨hx, hb, hml, hown, hts⟩ (mTx_length l D K _ v1 h0 a0 o0 _ hq_1) (cwV 1 hts (cf_GV wv_752 wv_753 wv_754 wv_158 wv_755) rfl rfl rfl (by decide +kernel) ⟨Nat.le_of_ble_eq_true rfl, Nat.le_of_ble_eq_true rfl⟩) (dc_preV hE hP hD hS hA rfl 0 rfl) rfl rfl hl.1 rfl (lv_room (Nat.le_of_ble_eq_true rfl)) dTx_isWord_2 ⟨Nat.le_of_ble_eq_true rfl, Nat.le_of_ble_eq_true rfl⟩) hP hD hS hA (fun r_2 H locs hw_3 hP hD hS => ?_)
  subst r_2
  refine lv_aload_n hx hb dTx_isWord_5 rfl (lv_at hl 2 rfl) ?_
  obtain ⟨q_4, hq_4, h⟩ := op_b h
  refine cf_calli (wc := []) (wr := wTx K h0 a0 o0) (va_runV (As := []) (rest := [.int q_1]) ⟨hx, hb, hml, hown, hts⟩ (mJString_length__S3 l D K _ _ hq_4) (cwV 0 hts (cf_GV wv_756 wv_757 wv_758 wv_168 wv_759) rfl rfl rfl (by decide +kernel) ⟨Nat.le_of_ble_eq_true rfl, Nat.le_of_ble_eq_true rfl⟩) (cf_preO (wc := []) (hE.s 3 rfl).2.1 hE hP hD hS hA [] rfl (by decide +kernel)) rfl rfl hl.1 rfl (lv_room (Nat.le_of_ble_eq_true rfl)) dTx_isWord_6 ⟨Nat.le_of_ble_eq_true rfl, Nat.le_of_ble_eq_true rfl⟩) hP hD hS hA [] [0, 1, 2, 3] rfl rfl (by decide +kernel) (by decide +kernel) (fun r_5 _ H locs hw_6 hP hD hS => ?_)
  subst r_5
  have hP : va_P D vwCl (wTx K h0 a0 o0) H := hP.sub [0, 1, 2, 3] rfl
  have hD : va_D A (wTx K h0 a0 o0) := hD.sub [0, 1, 2, 3] (by decide +kernel) rfl
  refine lv_icmp_eq (tgt := 14) hx hb dTx_isWord_9 (by decide) (fun c_7 => ?_) (fun c_7 => ?_)
  · have h := op_t c_7 h
    refine lv_iconst (v := 0) hx hb dTx_isWord_14 (by decide) ?_
    refine lv_istore_n (lv' := [(3, .int 0), (0, .ref h0), (1, .int v1), (2, .ref (K 103))]) hx hb dTx_isWord_15 rfl hl (by decide) rfl (fun ls hl => ?_)
    exact (ih) _ _ _ _ h hP hD hS (lv_sub hl [1, 2, 3, 0] rfl)
  · have h := op_f c_7 h
    refine lv_iconst (v := 0) hx hb dTx_isWord_12 (by decide) ?_
    obtain rfl := Option.some.inj h
    exact dc_zret hx hb hr rfl hlocks rfl hP hD hS dTx_isWord_13
theorem iTx_isWord_S3 {p : Program} {l : Launch} {e : Env} {s : State} {m : MethodId} {below : List Frame} {meth : Method} {c : Code} {A : Nat → Prop} {D : va_G} {K : Nat → ClassId} {h0 : Nat} {a0 : Nat → Nat} {AR : Array Value} (C : (dc_C p s m AR meth c cTx_isWord 4 (Option.some Jvm.ClassFile.FieldType.boolean) yTx_isWord ∧ cf_E D K A s s.heap ∧ ∀ q, s.heap.size ≤ q → A q)) : ∀ n, IhTx_isWord_S3 p l e s m below meth c A D K h0 a0 AR n := by
  intro n
  induction n with
  | zero => exact (fun _ _ _ r h => by cases (show none = some r from h))
  | succ n ih => exact fun x0 x1 x2 r h _ _ _ hP hD hS hl => bTx_isWord_S3_16 C ih x0 x1 x2 r h hP hD hS hl
set_option maxRecDepth 100000 in
theorem mTx_isWord_S3 (l : Launch) (D : va_G) (K : Nat → ClassId) (sz : Nat) (v1 : Int32) (h0 : Nat) (a0 : Nat → Nat) (o0 : cf_O) (r : Int32) (h : fTx_isWord_S3 v1 o0 = some r) : Met l yTx_isWord (Cond.code yTx_isWord cTx_isWord 4 (Option.some Jvm.ClassFile.FieldType.boolean) :: cfB) ({ frames := 4, cells := 0, slots := 0, locals := 85 }) (va_Pc [.ref h0, .int v1, .ref (K 103)] (cf_Pre D K sz (wTx K h0 a0 o0))) (va_Qi (fun (x : Int32) (_ : Unit) => x = r) (fun (_ : Unit) t => cf_At D (va_A (wTx K h0 a0 o0) sz) (wTx K h0 a0 o0) t) (va_A (wTx K h0 a0 o0) sz)) 0 0 (va_A (wTx K h0 a0 o0) sz) := by
  refine cf_ofW (y := yTx_isWord) (As := [.ref h0, .int v1, .ref (K 103)]) (WS := wTx K h0 a0 o0) (maxL := 4) (fun A => (va_Qi (fun (x : Int32) (_ : Unit) => x = r) (fun (_ : Unit) t => cf_At D A (wTx K h0 a0 o0) t) A)) (by decide) (Nat.le_of_ble_eq_true rfl) ?_
  intro p e s m below meth c A ls En hsz hA hP hD hE hS hl
  have C : (dc_C p s m (([.ref h0, .int v1, .ref (K 103)] : List Value).toArray) meth c cTx_isWord 4 (Option.some Jvm.ClassFile.FieldType.boolean) yTx_isWord ∧ cf_E D K A s s.heap ∧ ∀ q, s.heap.size ≤ q → A q) := ⟨En, hE, hA⟩
  exact bTx_isWord_S3_0 C (iTx_isWord_S3 C cfFU) v1 o0 r h hP hD hS hl
def IhNl_takeNames_Nl4 (p : Program) (l : Launch) (e : Env) (s : State) (m : MethodId) (below : List Frame) (meth : Method) (c : Code) (A : Nat → Prop) (D : va_G) (K : Nat → ClassId) (h0 : Nat) (a0 : Nat → Nat) (h1 : Nat) (a1 : Nat → Nat) (AR : Array Value) (n : Nat) : Prop := (∀ (v2 : Int32) (v4 : Int32) (v5 : Int32) (o0 : cf_O) (o1 : cf_O) (r : Int32 × cf_O), gNl_takeNames_Nl4 n 0 v2 v4 v5 o0 o1 = some r → ∀ {H : Heap} {locs : List Loc} {ls : Array Slot}, (va_P D vwCl (wTx K h0 a0 o0 ++ wNl K h1 a1 o1) H) → (va_D A (wTx K h0 a0 o0 ++ wNl K h1 a1 o1)) → va_S A s.heap H locs → lv_has ls 6 [(0, .ref h0), (1, .ref (a1 4)), (2, .int v2), (4, .int v4), (5, .int v5)] → W p l e ({ frames := 2, cells := 0, slots := 0, locals := 47 }) s m AR below meth c H locs 0 0 (MQ below (va_Qi (fun (x : Int32) (_ : Unit) => x = r.1) (fun (_ : Unit) t => cf_At D A (wTx K h0 a0 o0 ++ wNl K h1 a1 r.2) t) A) AR s 0 0 A) (F0 m 25 ls []))
set_option maxHeartbeats 4000000 in
set_option maxRecDepth 100000 in
theorem bNl_takeNames_Nl4_25 {p : Program} {l : Launch} {e : Env} {s : State} {m : MethodId} {below : List Frame} {meth : Method} {c : Code} {A : Nat → Prop} {D : va_G} {K : Nat → ClassId} {h0 : Nat} {a0 : Nat → Nat} {h1 : Nat} {a1 : Nat → Nat} {AR : Array Value} (C : (dc_C p s m AR meth c cNl_takeNames 6 (Option.some Jvm.ClassFile.FieldType.boolean) yNl_takeNames ∧ cf_E D K A s s.heap ∧ ∀ q, s.heap.size ≤ q → A q)) {n : Nat} (ih : IhNl_takeNames_Nl4 p l e s m below meth c A D K h0 a0 h1 a1 AR n) (v2 : Int32) (v4 : Int32) (v5 : Int32) (o0 : cf_O) (o1 : cf_O) (r : Int32 × cf_O) (h : fNl_takeNames_Nl4_25 (gNl_takeNames_Nl4 n) v2 v4 v5 o0 o1 = some r) {H : Heap} {locs : List Loc} {ls : Array Slot} (hP : va_P D vwCl (wTx K h0 a0 o0 ++ wNl K h1 a1 o1) H) (hD : va_D A (wTx K h0 a0 o0 ++ wNl K h1 a1 o1)) (hS : va_S A s.heap H locs) (hl : lv_has ls 6 [(0, .ref h0), (1, .ref (a1 4)), (2, .int v2), (4, .int v4), (5, .int v5)]) : W p l e ({ frames := 2, cells := 0, slots := 0, locals := 47 }) s m AR below meth c H locs 0 0 (MQ below (va_Qi (fun (x : Int32) (_ : Unit) => x = r.1) (fun (_ : Unit) t => cf_At D A (wTx K h0 a0 o0 ++ wNl K h1 a1 r.2) t) A) AR s 0 0 A) (F0 m 25 ls []) := by
  obtain ⟨⟨hx, hb, hr, hts, hown, hlocks, hin, hml⟩, hE, hA⟩ := id C
  have hK := hE.k
  refine lv_iload hx hb dNl_takeNames_25 (lv_at hl 4 rfl) ?_
  refine lv_iload hx hb dNl_takeNames_27 (lv_at hl 3 rfl) ?_
  refine lv_icmp_ge (tgt := 65) hx hb dNl_takeNames_29 (by decide) (fun c_1 => ?_) (fun c_1 => ?_)
  · have h := op_t c_1 h
    refine lv_iconst (v := 1) hx hb dNl_takeNames_65 (by decide) ?_
    obtain rfl := Option.some.inj h
    exact dc_zret hx hb hr rfl hlocks rfl hP hD hS dNl_takeNames_66
  · have h := op_f c_1 h
    refine lv_aload_n hx hb dNl_takeNames_32 rfl (lv_at hl 1 rfl) ?_
    refine lv_iload_n hx hb dNl_takeNames_33 rfl (lv_at hl 2 rfl) ?_
    refine lv_iload hx hb dNl_takeNames_34 (lv_at hl 4 rfl) ?_
    refine lv_iadd hx hb dNl_takeNames_36 ?_
    refine lv_topi (fun x_2 ex_2 => ?_)
    have h := op_ks ex_2 h
    refine lv_aload_n hx hb dNl_takeNames_37 rfl (lv_at hl 0 rfl) ?_
    refine lv_iload hx hb dNl_takeNames_38 (lv_at hl 4 rfl) ?_
    refine lv_iconst (v := 1) hx hb dNl_takeNames_40 (by decide) ?_
    refine lv_iadd hx hb dNl_takeNames_41 ?_
    refine lv_topi (fun x_3 ex_3 => ?_)
    have h := op_ks ex_3 h
    obtain ⟨q_4, hq_4, h⟩ := op_b h
    refine cf_calll (wc := wTx K h0 a0 o0) (wr := wNl K h1 a1 o1) (va_runV (As := [.int x_3]) (rest := [.int x_2, .ref (a1 4)]) ⟨hx, hb, hml, hown, hts⟩ (mTx_name l D K _ x_3 h0 a0 o0 _ hq_4) (cwV 1 hts (cf_GV wv_988 wv_813 wv_814 wv_158 wv_815) rfl rfl rfl (by decide +kernel) ⟨Nat.le_of_ble_eq_true rfl, Nat.le_of_ble_eq_true rfl⟩) (cf_preV (wc := wTx K h0 a0 o0) hE hP hD hS hA rfl 0 rfl [0, 1, 2, 3] rfl (by decide +kernel)) rfl rfl hl.1 rfl (lv_room (Nat.le_of_ble_eq_true rfl)) dNl_takeNames_42 ⟨Nat.le_of_ble_eq_true rfl, Nat.le_of_ble_eq_true rfl⟩) hP hD hS hA [0, 1, 2, 3] [4, 5, 6, 7, 8, 9, 10, 11, 12, 13, 14, 15, 16] rfl rfl (by decide +kernel) (by decide +kernel) (fun r_5 _ H locs hw_6 hP hD hS => ?_)
    subst r_5
    have hP : va_P D vwCl (wTx K h0 a0 o0 ++ wNl K h1 a1 o1) H := hP.sub [13, 14, 15, 16, 0, 1, 2, 3, 4, 5, 6, 7, 8, 9, 10, 11, 12] rfl
    have hD : va_D A (wTx K h0 a0 o0 ++ wNl K h1 a1 o1) := hD.sub [13, 14, 15, 16, 0, 1, 2, 3, 4, 5, 6, 7, 8, 9, 10, 11, 12] (by decide +kernel) rfl
    obtain ⟨hi_7, h⟩ := op_n h
    refine va_last (D := D) hx hb hK hP hD hS 6 1 rfl rfl hi_7 dNl_takeNames_45 (fun H locs hP hD hS => ?_)
    have hP : va_P D vwCl (wTx K h0 a0 o0 ++ wNl K h1 a1 (yp o1 4 x_2.toNatClampNeg q_4)) H := hP
    have hD : va_D A (wTx K h0 a0 o0 ++ wNl K h1 a1 (yp o1 4 x_2.toNatClampNeg q_4)) := hD
    obtain ⟨o_8, eo_8, h⟩ := op_kx h
    rw [← eo_8] at hP hD
    refine lv_aload_n hx hb dNl_takeNames_46 rfl (lv_at hl 1 rfl) ?_
    refine lv_iload_n hx hb dNl_takeNames_47 rfl (lv_at hl 2 rfl) ?_
    refine lv_iload hx hb dNl_takeNames_48 (lv_at hl 4 rfl) ?_
    refine lv_iadd hx hb dNl_takeNames_50 ?_
    refine lv_topi (fun x_9 ex_9 => ?_)
    have h := op_ks ex_9 h
    obtain ⟨hi_10, h⟩ := op_n h
    refine va_lald (D := D) hx hb hK hP 6 1 rfl rfl hi_10 dNl_takeNames_51 ?_
    refine lv_topl (fun x_11 ex_11 => ?_)
    have h := op_ks ex_11 h
    refine lv_lconst (v := 0) hx hb dNl_takeNames_52 (by decide) ?_
    refine W.lcmp hx hb dNl_takeNames_53 ?_
    refine lv_topi (fun x_12 ex_12 => ?_)
    have h := op_ks ex_12 h
    refine lv_if_ne (tgt := 59) hx hb dNl_takeNames_54 (by decide) (fun c_13 => ?_) (fun c_13 => ?_)
    · have h := op_f c_13 h
      obtain ⟨x_14, ex_14⟩ : ∃ y : Int32, y = v5 + 1 := ⟨_, rfl⟩
      refine lv_iinc (v := x_14) (lv' := [(5, .int x_14), (0, .ref h0), (1, .ref (a1 4)), (2, .int v2), (4, .int v4)]) hx hb dNl_takeNames_59 hl (k := 4) rfl (by rw [ex_14]; rfl) (by decide) rfl (fun ls hl => ?_)
      have h := op_ks ex_14 h
      refine lv_goto (tgt := 25) hx hb dNl_takeNames_62 (by decide) ?_
      exact (ih) _ _ _ _ _ _ h hP hD hS (lv_sub hl [1, 2, 3, 4, 0] rfl)
    · have h := op_t c_13 h
      refine lv_iconst (v := 0) hx hb dNl_takeNames_57 (by decide) ?_
      obtain rfl := Option.some.inj h
      exact dc_zret hx hb hr rfl hlocks rfl hP hD hS dNl_takeNames_58
set_option maxHeartbeats 4000000 in
set_option maxRecDepth 100000 in
theorem bNl_takeNames_Nl4_20 {p : Program} {l : Launch} {e : Env} {s : State} {m : MethodId} {below : List Frame} {meth : Method} {c : Code} {A : Nat → Prop} {D : va_G} {K : Nat → ClassId} {h0 : Nat} {a0 : Nat → Nat} {h1 : Nat} {a1 : Nat → Nat} {AR : Array Value} (C : (dc_C p s m AR meth c cNl_takeNames 6 (Option.some Jvm.ClassFile.FieldType.boolean) yNl_takeNames ∧ cf_E D K A s s.heap ∧ ∀ q, s.heap.size ≤ q → A q)) {n : Nat} (ih : IhNl_takeNames_Nl4 p l e s m below meth c A D K h0 a0 h1 a1 AR n) (o0 : cf_O) (o1 : cf_O) (r : Int32 × cf_O) (h : fNl_takeNames_Nl4_20 (gNl_takeNames_Nl4 n) o0 o1 = some r) {H : Heap} {locs : List Loc} {ls : Array Slot} (hP : va_P D vwCl (wTx K h0 a0 o0 ++ wNl K h1 a1 o1) H) (hD : va_D A (wTx K h0 a0 o0 ++ wNl K h1 a1 o1)) (hS : va_S A s.heap H locs) (hl : lv_has ls 6 []) : W p l e ({ frames := 2, cells := 0, slots := 0, locals := 47 }) s m AR below meth c H locs 0 0 (MQ below (va_Qi (fun (x : Int32) (_ : Unit) => x = r.1) (fun (_ : Unit) t => cf_At D A (wTx K h0 a0 o0 ++ wNl K h1 a1 r.2) t) A) AR s 0 0 A) (F0 m 20 ls []) := by
  obtain ⟨⟨hx, hb, hr, hts, hown, hlocks, hin, hml⟩, hE, hA⟩ := id C
  have hK := hE.k
  refine lv_iconst (v := 0) hx hb dNl_takeNames_20 (by decide) ?_
  obtain rfl := Option.some.inj h
  exact dc_zret hx hb hr rfl hlocks rfl hP hD hS dNl_takeNames_21
set_option maxHeartbeats 4000000 in
set_option maxRecDepth 100000 in
theorem bNl_takeNames_Nl4_0 {p : Program} {l : Launch} {e : Env} {s : State} {m : MethodId} {below : List Frame} {meth : Method} {c : Code} {A : Nat → Prop} {D : va_G} {K : Nat → ClassId} {h0 : Nat} {a0 : Nat → Nat} {h1 : Nat} {a1 : Nat → Nat} {AR : Array Value} (C : (dc_C p s m AR meth c cNl_takeNames 6 (Option.some Jvm.ClassFile.FieldType.boolean) yNl_takeNames ∧ cf_E D K A s s.heap ∧ ∀ q, s.heap.size ≤ q → A q)) {n : Nat} (ih : IhNl_takeNames_Nl4 p l e s m below meth c A D K h0 a0 h1 a1 AR n) (v2 : Int32) (v3 : Int32) (o0 : cf_O) (o1 : cf_O) (r : Int32 × cf_O) (h : fNl_takeNames_Nl4_0 (gNl_takeNames_Nl4 n) v2 v3 o0 o1 = some r) {H : Heap} {locs : List Loc} {ls : Array Slot} (hP : va_P D vwCl (wTx K h0 a0 o0 ++ wNl K h1 a1 o1) H) (hD : va_D A (wTx K h0 a0 o0 ++ wNl K h1 a1 o1)) (hS : va_S A s.heap H locs) (hl : lv_has ls 6 [(0, .ref h0), (1, .ref (a1 4)), (2, .int v2), (3, .int v3)]) : W p l e ({ frames := 2, cells := 0, slots := 0, locals := 47 }) s m AR below meth c H locs 0 0 (MQ below (va_Qi (fun (x : Int32) (_ : Unit) => x = r.1) (fun (_ : Unit) t => cf_At D A (wTx K h0 a0 o0 ++ wNl K h1 a1 r.2) t) A) AR s 0 0 A) (F0 m 0 ls []) := by
  obtain ⟨⟨hx, hb, hr, hts, hown, hlocks, hin, hml⟩, hE, hA⟩ := id C
  have hK := hE.k
  refine lv_aload_n hx hb dNl_takeNames_0 rfl (lv_at hl 0 rfl) ?_
  refine va_get (D := D) (ci := 1) (v := .int (o0.1 5)) (C := RTx) (T := TTx) (N := 7) hx hb hts inTx hown hK hP 0 rfl rfl 5 (by decide) (hts _ wv_214) (fun _ h9 => h9) rfl dNl_takeNames_1 ?_
  refine lv_iconst (v := 1) hx hb dNl_takeNames_4 (by decide) ?_
  refine lv_isub hx hb dNl_takeNames_5 ?_
  refine lv_topi (fun x_1 ex_1 => ?_)
  have h := op_ks ex_1 h
  refine lv_istore (lv' := [(4, .int x_1), (0, .ref h0), (1, .ref (a1 4)), (2, .int v2), (3, .int v3)]) hx hb dNl_takeNames_6 hl (by decide) rfl (fun ls hl => ?_)
  refine lv_iload hx hb dNl_takeNames_8 (lv_at hl 0 rfl) ?_
  refine lv_iconst (v := 1) hx hb dNl_takeNames_10 (by decide) ?_
  refine lv_icmp_lt (tgt := 20) hx hb dNl_takeNames_11 (by decide) (fun c_2 => ?_) (fun c_2 => ?_)
  · have h := op_t c_2 h
    exact bNl_takeNames_Nl4_20 C ih _ _ _ h hP hD hS (lv_sub hl [] rfl)
  · have h := op_f c_2 h
    refine lv_iload hx hb dNl_takeNames_14 (lv_at hl 0 rfl) ?_
    refine lv_iload_n hx hb dNl_takeNames_16 rfl (lv_at hl 4 rfl) ?_
    refine lv_icmp_le (tgt := 22) hx hb dNl_takeNames_17 (by decide) (fun c_3 => ?_) (fun c_3 => ?_)
    · have h := op_t c_3 h
      refine lv_iconst (v := 0) hx hb dNl_takeNames_22 (by decide) ?_
      refine lv_istore (lv' := [(5, .int 0), (4, .int x_1), (0, .ref h0), (1, .ref (a1 4)), (2, .int v2), (3, .int v3)]) hx hb dNl_takeNames_23 hl (by decide) rfl (fun ls hl => ?_)
      exact (ih) _ _ _ _ _ _ h hP hD hS (lv_sub hl [2, 3, 4, 1, 0] rfl)
    · have h := op_f c_3 h
      exact bNl_takeNames_Nl4_20 C ih _ _ _ h hP hD hS (lv_sub hl [] rfl)
theorem iNl_takeNames_Nl4 {p : Program} {l : Launch} {e : Env} {s : State} {m : MethodId} {below : List Frame} {meth : Method} {c : Code} {A : Nat → Prop} {D : va_G} {K : Nat → ClassId} {h0 : Nat} {a0 : Nat → Nat} {h1 : Nat} {a1 : Nat → Nat} {AR : Array Value} (C : (dc_C p s m AR meth c cNl_takeNames 6 (Option.some Jvm.ClassFile.FieldType.boolean) yNl_takeNames ∧ cf_E D K A s s.heap ∧ ∀ q, s.heap.size ≤ q → A q)) : ∀ n, IhNl_takeNames_Nl4 p l e s m below meth c A D K h0 a0 h1 a1 AR n := by
  intro n
  induction n with
  | zero => exact (fun _ _ _ _ _ r h => by cases (show none = some r from h))
  | succ n ih => exact fun x0 x1 x2 x3 x4 r h _ _ _ hP hD hS hl => bNl_takeNames_Nl4_25 C ih x0 x1 x2 x3 x4 r h hP hD hS hl
set_option maxRecDepth 100000 in
theorem mNl_takeNames_Nl4 (l : Launch) (D : va_G) (K : Nat → ClassId) (sz : Nat) (v2 : Int32) (v3 : Int32) (h0 : Nat) (a0 : Nat → Nat) (h1 : Nat) (a1 : Nat → Nat) (o0 : cf_O) (o1 : cf_O) (r : Int32 × cf_O) (h : fNl_takeNames_Nl4 v2 v3 o0 o1 = some r) : Met l yNl_takeNames (Cond.code yNl_takeNames cNl_takeNames 6 (Option.some Jvm.ClassFile.FieldType.boolean) :: cfB) ({ frames := 2, cells := 0, slots := 0, locals := 47 }) (va_Pc [.ref h0, .ref (a1 4), .int v2, .int v3] (cf_Pre D K sz (wTx K h0 a0 o0 ++ wNl K h1 a1 o1))) (va_Qi (fun (x : Int32) (_ : Unit) => x = r.1) (fun (_ : Unit) t => cf_At D (va_A (wTx K h0 a0 o0 ++ wNl K h1 a1 o1) sz) (wTx K h0 a0 o0 ++ wNl K h1 a1 r.2) t) (va_A (wTx K h0 a0 o0 ++ wNl K h1 a1 o1) sz)) 0 0 (va_A (wTx K h0 a0 o0 ++ wNl K h1 a1 o1) sz) := by
  refine cf_ofW (y := yNl_takeNames) (As := [.ref h0, .ref (a1 4), .int v2, .int v3]) (WS := wTx K h0 a0 o0 ++ wNl K h1 a1 o1) (maxL := 6) (fun A => (va_Qi (fun (x : Int32) (_ : Unit) => x = r.1) (fun (_ : Unit) t => cf_At D A (wTx K h0 a0 o0 ++ wNl K h1 a1 r.2) t) A)) (by decide) (Nat.le_of_ble_eq_true rfl) ?_
  intro p e s m below meth c A ls En hsz hA hP hD hE hS hl
  have C : (dc_C p s m (([.ref h0, .ref (a1 4), .int v2, .int v3] : List Value).toArray) meth c cNl_takeNames 6 (Option.some Jvm.ClassFile.FieldType.boolean) yNl_takeNames ∧ cf_E D K A s s.heap ∧ ∀ q, s.heap.size ≤ q → A q) := ⟨En, hE, hA⟩
  exact bNl_takeNames_Nl4_0 C (iNl_takeNames_Nl4 C cfFU) v2 v3 o0 o1 r h hP hD hS hl
def IhNl_hasTwice_Nl4 (p : Program) (l : Launch) (e : Env) (s : State) (m : MethodId) (below : List Frame) (meth : Method) (c : Code) (A : Nat → Prop) (D : va_G) (K : Nat → ClassId) (h0 : Nat) (a0 : Nat → Nat) (AR : Array Value) (n : Nat) : Prop := (∀ (v1 : Int32) (v2 : Int32) (o0 : cf_O) (r : Int32), gNl_hasTwice_Nl4 n 0 v1 v2 0 o0 = some r → ∀ {H : Heap} {locs : List Loc} {ls : Array Slot}, (va_P D vwCl (wNl K h0 a0 o0) H) → (va_D A (wNl K h0 a0 o0)) → va_S A s.heap H locs → lv_has ls 4 [(0, .ref (a0 4)), (1, .int v1), (2, .int v2)] → W p l e ({ frames := 0, cells := 0, slots := 0, locals := 0 }) s m AR below meth c H locs 0 0 (MQ below (va_Qi (fun (x : Int32) (_ : Unit) => x = r) (fun (_ : Unit) t => cf_At D A (wNl K h0 a0 o0) t) A) AR s 0 0 A) (F0 m 2 ls [])) ∧ (∀ (v1 : Int32) (v2 : Int32) (v3 : Int32) (o0 : cf_O) (r : Int32), gNl_hasTwice_Nl4 n 1 v1 v2 v3 o0 = some r → ∀ {H : Heap} {locs : List Loc} {ls : Array Slot}, (va_P D vwCl (wNl K h0 a0 o0) H) → (va_D A (wNl K h0 a0 o0)) → va_S A s.heap H locs → lv_has ls 4 [(0, .ref (a0 4)), (1, .int v1), (2, .int v2), (3, .int v3)] → W p l e ({ frames := 0, cells := 0, slots := 0, locals := 0 }) s m AR below meth c H locs 0 0 (MQ below (va_Qi (fun (x : Int32) (_ : Unit) => x = r) (fun (_ : Unit) t => cf_At D A (wNl K h0 a0 o0) t) A) AR s 0 0 A) (F0 m 9 ls []))
set_option maxHeartbeats 4000000 in
set_option maxRecDepth 100000 in
theorem bNl_hasTwice_Nl4_9 {p : Program} {l : Launch} {e : Env} {s : State} {m : MethodId} {below : List Frame} {meth : Method} {c : Code} {A : Nat → Prop} {D : va_G} {K : Nat → ClassId} {h0 : Nat} {a0 : Nat → Nat} {AR : Array Value} (C : (dc_C p s m AR meth c cNl_hasTwice 4 (Option.some Jvm.ClassFile.FieldType.boolean) yNl_hasTwice ∧ cf_E D K A s s.heap ∧ ∀ q, s.heap.size ≤ q → A q)) {n : Nat} (ih : IhNl_hasTwice_Nl4 p l e s m below meth c A D K h0 a0 AR n) (v1 : Int32) (v2 : Int32) (v3 : Int32) (o0 : cf_O) (r : Int32) (h : fNl_hasTwice_Nl4_9 (gNl_hasTwice_Nl4 n) v1 v2 v3 o0 = some r) {H : Heap} {locs : List Loc} {ls : Array Slot} (hP : va_P D vwCl (wNl K h0 a0 o0) H) (hD : va_D A (wNl K h0 a0 o0)) (hS : va_S A s.heap H locs) (hl : lv_has ls 4 [(0, .ref (a0 4)), (1, .int v1), (2, .int v2), (3, .int v3)]) : W p l e ({ frames := 0, cells := 0, slots := 0, locals := 0 }) s m AR below meth c H locs 0 0 (MQ below (va_Qi (fun (x : Int32) (_ : Unit) => x = r) (fun (_ : Unit) t => cf_At D A (wNl K h0 a0 o0) t) A) AR s 0 0 A) (F0 m 9 ls []) := by
  obtain ⟨⟨hx, hb, hr, hts, hown, hlocks, hin, hml⟩, hE, hA⟩ := id C
  have hK := hE.k
  refine lv_iload_n hx hb dNl_hasTwice_9 rfl (lv_at hl 3 rfl) ?_
  refine lv_iload_n hx hb dNl_hasTwice_10 rfl (lv_at hl 2 rfl) ?_
  refine lv_icmp_ge (tgt := 32) hx hb dNl_hasTwice_11 (by decide) (fun c_1 => ?_) (fun c_1 => ?_)
  · have h := op_t c_1 h
    obtain ⟨x_2, ex_2⟩ : ∃ y : Int32, y = v2 + 1 := ⟨_, rfl⟩
    refine lv_iinc (v := x_2) (lv' := [(2, .int x_2), (0, .ref (a0 4)), (1, .int v1), (3, .int v3)]) hx hb dNl_hasTwice_32 hl (k := 2) rfl (by rw [ex_2]; rfl) (by decide) rfl (fun ls hl => ?_)
    have h := op_ks ex_2 h
    refine lv_goto (tgt := 2) hx hb dNl_hasTwice_35 (by decide) ?_
    exact (ih.1) _ _ _ _ h hP hD hS (lv_sub hl [1, 2, 0] rfl)
  · have h := op_f c_1 h
    refine lv_aload_n hx hb dNl_hasTwice_14 rfl (lv_at hl 0 rfl) ?_
    refine lv_iload_n hx hb dNl_hasTwice_15 rfl (lv_at hl 2 rfl) ?_
    obtain ⟨hi_3, h⟩ := op_n h
    refine va_lald (D := D) hx hb hK hP 2 1 rfl rfl hi_3 dNl_hasTwice_16 ?_
    refine lv_topl (fun x_4 ex_4 => ?_)
    have h := op_ks ex_4 h
    refine lv_aload_n hx hb dNl_hasTwice_17 rfl (lv_at hl 0 rfl) ?_
    refine lv_iload_n hx hb dNl_hasTwice_18 rfl (lv_at hl 3 rfl) ?_
    obtain ⟨hi_5, h⟩ := op_n h
    refine va_lald (D := D) hx hb hK hP 2 1 rfl rfl hi_5 dNl_hasTwice_19 ?_
    refine lv_topl (fun x_6 ex_6 => ?_)
    have h := op_ks ex_6 h
    refine W.lcmp hx hb dNl_hasTwice_20 ?_
    refine lv_topi (fun x_7 ex_7 => ?_)
    have h := op_ks ex_7 h
    refine lv_if_ne (tgt := 26) hx hb dNl_hasTwice_21 (by decide) (fun c_8 => ?_) (fun c_8 => ?_)
    · have h := op_f c_8 h
      obtain ⟨x_9, ex_9⟩ : ∃ y : Int32, y = v3 + 1 := ⟨_, rfl⟩
      refine lv_iinc (v := x_9) (lv' := [(3, .int x_9), (0, .ref (a0 4)), (1, .int v1), (2, .int v2)]) hx hb dNl_hasTwice_26 hl (k := 3) rfl (by rw [ex_9]; rfl) (by decide) rfl (fun ls hl => ?_)
      have h := op_ks ex_9 h
      refine lv_goto (tgt := 9) hx hb dNl_hasTwice_29 (by decide) ?_
      exact (ih.2) _ _ _ _ _ h hP hD hS (lv_sub hl [1, 2, 3, 0] rfl)
    · have h := op_t c_8 h
      refine lv_iconst (v := 1) hx hb dNl_hasTwice_24 (by decide) ?_
      obtain rfl := Option.some.inj h
      exact dc_zret hx hb hr rfl hlocks rfl hP hD hS dNl_hasTwice_25
set_option maxHeartbeats 4000000 in
set_option maxRecDepth 100000 in
theorem bNl_hasTwice_Nl4_2 {p : Program} {l : Launch} {e : Env} {s : State} {m : MethodId} {below : List Frame} {meth : Method} {c : Code} {A : Nat → Prop} {D : va_G} {K : Nat → ClassId} {h0 : Nat} {a0 : Nat → Nat} {AR : Array Value} (C : (dc_C p s m AR meth c cNl_hasTwice 4 (Option.some Jvm.ClassFile.FieldType.boolean) yNl_hasTwice ∧ cf_E D K A s s.heap ∧ ∀ q, s.heap.size ≤ q → A q)) {n : Nat} (ih : IhNl_hasTwice_Nl4 p l e s m below meth c A D K h0 a0 AR n) (v1 : Int32) (v2 : Int32) (o0 : cf_O) (r : Int32) (h : fNl_hasTwice_Nl4_2 (gNl_hasTwice_Nl4 n) v1 v2 o0 = some r) {H : Heap} {locs : List Loc} {ls : Array Slot} (hP : va_P D vwCl (wNl K h0 a0 o0) H) (hD : va_D A (wNl K h0 a0 o0)) (hS : va_S A s.heap H locs) (hl : lv_has ls 4 [(0, .ref (a0 4)), (1, .int v1), (2, .int v2)]) : W p l e ({ frames := 0, cells := 0, slots := 0, locals := 0 }) s m AR below meth c H locs 0 0 (MQ below (va_Qi (fun (x : Int32) (_ : Unit) => x = r) (fun (_ : Unit) t => cf_At D A (wNl K h0 a0 o0) t) A) AR s 0 0 A) (F0 m 2 ls []) := by
  obtain ⟨⟨hx, hb, hr, hts, hown, hlocks, hin, hml⟩, hE, hA⟩ := id C
  have hK := hE.k
  refine lv_iload_n hx hb dNl_hasTwice_2 rfl (lv_at hl 2 rfl) ?_
  refine lv_iload_n hx hb dNl_hasTwice_3 rfl (lv_at hl 1 rfl) ?_
  refine lv_icmp_ge (tgt := 38) hx hb dNl_hasTwice_4 (by decide) (fun c_1 => ?_) (fun c_1 => ?_)
  · have h := op_t c_1 h
    refine lv_iconst (v := 0) hx hb dNl_hasTwice_38 (by decide) ?_
    obtain rfl := Option.some.inj h
    exact dc_zret hx hb hr rfl hlocks rfl hP hD hS dNl_hasTwice_39
  · have h := op_f c_1 h
    refine lv_iconst (v := 0) hx hb dNl_hasTwice_7 (by decide) ?_
    refine lv_istore_n (lv' := [(3, .int 0), (0, .ref (a0 4)), (1, .int v1), (2, .int v2)]) hx hb dNl_hasTwice_8 rfl hl (by decide) rfl (fun ls hl => ?_)
    exact (ih.2) _ _ _ _ _ h hP hD hS (lv_sub hl [1, 2, 3, 0] rfl)
set_option maxHeartbeats 4000000 in
set_option maxRecDepth 100000 in
theorem bNl_hasTwice_Nl4_0 {p : Program} {l : Launch} {e : Env} {s : State} {m : MethodId} {below : List Frame} {meth : Method} {c : Code} {A : Nat → Prop} {D : va_G} {K : Nat → ClassId} {h0 : Nat} {a0 : Nat → Nat} {AR : Array Value} (C : (dc_C p s m AR meth c cNl_hasTwice 4 (Option.some Jvm.ClassFile.FieldType.boolean) yNl_hasTwice ∧ cf_E D K A s s.heap ∧ ∀ q, s.heap.size ≤ q → A q)) {n : Nat} (ih : IhNl_hasTwice_Nl4 p l e s m below meth c A D K h0 a0 AR n) (v1 : Int32) (o0 : cf_O) (r : Int32) (h : fNl_hasTwice_Nl4_0 (gNl_hasTwice_Nl4 n) v1 o0 = some r) {H : Heap} {locs : List Loc} {ls : Array Slot} (hP : va_P D vwCl (wNl K h0 a0 o0) H) (hD : va_D A (wNl K h0 a0 o0)) (hS : va_S A s.heap H locs) (hl : lv_has ls 4 [(0, .ref (a0 4)), (1, .int v1)]) : W p l e ({ frames := 0, cells := 0, slots := 0, locals := 0 }) s m AR below meth c H locs 0 0 (MQ below (va_Qi (fun (x : Int32) (_ : Unit) => x = r) (fun (_ : Unit) t => cf_At D A (wNl K h0 a0 o0) t) A) AR s 0 0 A) (F0 m 0 ls []) := by
  obtain ⟨⟨hx, hb, hr, hts, hown, hlocks, hin, hml⟩, hE, hA⟩ := id C
  have hK := hE.k
  refine lv_iconst (v := 0) hx hb dNl_hasTwice_0 (by decide) ?_
  refine lv_istore_n (lv' := [(2, .int 0), (0, .ref (a0 4)), (1, .int v1)]) hx hb dNl_hasTwice_1 rfl hl (by decide) rfl (fun ls hl => ?_)
  exact (ih.1) _ _ _ _ h hP hD hS (lv_sub hl [1, 2, 0] rfl)
theorem iNl_hasTwice_Nl4 {p : Program} {l : Launch} {e : Env} {s : State} {m : MethodId} {below : List Frame} {meth : Method} {c : Code} {A : Nat → Prop} {D : va_G} {K : Nat → ClassId} {h0 : Nat} {a0 : Nat → Nat} {AR : Array Value} (C : (dc_C p s m AR meth c cNl_hasTwice 4 (Option.some Jvm.ClassFile.FieldType.boolean) yNl_hasTwice ∧ cf_E D K A s s.heap ∧ ∀ q, s.heap.size ≤ q → A q)) : ∀ n, IhNl_hasTwice_Nl4 p l e s m below meth c A D K h0 a0 AR n := by
  intro n
  induction n with
  | zero => exact ⟨(fun _ _ _ r h => by cases (show none = some r from h)), (fun _ _ _ _ r h => by cases (show none = some r from h))⟩
  | succ n ih => exact ⟨fun x0 x1 x2 r h _ _ _ hP hD hS hl => bNl_hasTwice_Nl4_2 C ih x0 x1 x2 r h hP hD hS hl, fun x0 x1 x2 x3 r h _ _ _ hP hD hS hl => bNl_hasTwice_Nl4_9 C ih x0 x1 x2 x3 r h hP hD hS hl⟩
set_option maxRecDepth 100000 in
theorem mNl_hasTwice_Nl4 (l : Launch) (D : va_G) (K : Nat → ClassId) (sz : Nat) (v1 : Int32) (h0 : Nat) (a0 : Nat → Nat) (o0 : cf_O) (r : Int32) (h : fNl_hasTwice_Nl4 v1 o0 = some r) : Met l yNl_hasTwice (Cond.code yNl_hasTwice cNl_hasTwice 4 (Option.some Jvm.ClassFile.FieldType.boolean) :: cfB) ({ frames := 0, cells := 0, slots := 0, locals := 0 }) (va_Pc [.ref (a0 4), .int v1] (cf_Pre D K sz (wNl K h0 a0 o0))) (va_Qi (fun (x : Int32) (_ : Unit) => x = r) (fun (_ : Unit) t => cf_At D (va_A (wNl K h0 a0 o0) sz) (wNl K h0 a0 o0) t) (va_A (wNl K h0 a0 o0) sz)) 0 0 (va_A (wNl K h0 a0 o0) sz) := by
  refine cf_ofW (y := yNl_hasTwice) (As := [.ref (a0 4), .int v1]) (WS := wNl K h0 a0 o0) (maxL := 4) (fun A => (va_Qi (fun (x : Int32) (_ : Unit) => x = r) (fun (_ : Unit) t => cf_At D A (wNl K h0 a0 o0) t) A)) (by decide) (Nat.le_of_ble_eq_true rfl) ?_
  intro p e s m below meth c A ls En hsz hA hP hD hE hS hl
  have C : (dc_C p s m (([.ref (a0 4), .int v1] : List Value).toArray) meth c cNl_hasTwice 4 (Option.some Jvm.ClassFile.FieldType.boolean) yNl_hasTwice ∧ cf_E D K A s s.heap ∧ ∀ q, s.heap.size ≤ q → A q) := ⟨En, hE, hA⟩
  exact bNl_hasTwice_Nl4_0 C (iNl_hasTwice_Nl4 C cfFU) v1 o0 r h hP hD hS hl
set_option maxHeartbeats 4000000 in
set_option maxRecDepth 100000 in
theorem bNl_scanOutputs_63 {p : Program} {l : Launch} {e : Env} {s : State} {m : MethodId} {below : List Frame} {meth : Method} {c : Code} {A : Nat → Prop} {D : va_G} {K : Nat → ClassId} {h0 : Nat} {a0 : Nat → Nat} {h1 : Nat} {a1 : Nat → Nat} {AR : Array Value} (C : (dc_C p s m AR meth c cNl_scanOutputs 2 (Option.some Jvm.ClassFile.FieldType.int) yNl_scanOutputs ∧ cf_E D K A s s.heap ∧ ∀ q, s.heap.size ≤ q → A q)) (s0 : Int32) (o0 : cf_O) (o1 : cf_O) (r : Int32 × cf_O) (h : fNl_scanOutputs_63 s0 o0 o1 = some r) {H : Heap} {locs : List Loc} {ls : Array Slot} (hP : va_P D vwCl (wNl K h0 a0 o0 ++ wTx K h1 a1 o1) H) (hD : va_D A (wNl K h0 a0 o0 ++ wTx K h1 a1 o1)) (hS : va_S A s.heap H locs) (hl : lv_has ls 2 []) : W p l e ({ frames := 5, cells := 0, slots := 0, locals := 108 }) s m AR below meth c H locs 0 0 (MQ below (va_Qi (fun (x : Int32) (_ : Unit) => x = r.1) (fun (_ : Unit) t => cf_At D A (wNl K h0 a0 r.2 ++ wTx K h1 a1 o1) t) A) AR s 0 0 A) (F0 m 63 ls [.int s0]) := by
  obtain ⟨⟨hx, hb, hr, hts, hown, hlocks, hin, hml⟩, hE, hA⟩ := id C
  have hK := hE.k
  obtain rfl := Option.some.inj h
  exact dc_iret hx hb hr hlocks rfl hP hD hS dNl_scanOutputs_63
set_option maxHeartbeats 4000000 in
set_option maxRecDepth 100000 in
theorem bNl_scanOutputs_24 {p : Program} {l : Launch} {e : Env} {s : State} {m : MethodId} {below : List Frame} {meth : Method} {c : Code} {A : Nat → Prop} {D : va_G} {K : Nat → ClassId} {h0 : Nat} {a0 : Nat → Nat} {h1 : Nat} {a1 : Nat → Nat} {AR : Array Value} (C : (dc_C p s m AR meth c cNl_scanOutputs 2 (Option.some Jvm.ClassFile.FieldType.int) yNl_scanOutputs ∧ cf_E D K A s s.heap ∧ ∀ q, s.heap.size ≤ q → A q)) (o0 : cf_O) (o1 : cf_O) (r : Int32 × cf_O) (h : fNl_scanOutputs_24 o0 o1 = some r) {H : Heap} {locs : List Loc} {ls : Array Slot} (hP : va_P D vwCl (wNl K h0 a0 o0 ++ wTx K h1 a1 o1) H) (hD : va_D A (wNl K h0 a0 o0 ++ wTx K h1 a1 o1)) (hS : va_S A s.heap H locs) (hl : lv_has ls 2 []) : W p l e ({ frames := 5, cells := 0, slots := 0, locals := 108 }) s m AR below meth c H locs 0 0 (MQ below (va_Qi (fun (x : Int32) (_ : Unit) => x = r.1) (fun (_ : Unit) t => cf_At D A (wNl K h0 a0 r.2 ++ wTx K h1 a1 o1) t) A) AR s 0 0 A) (F0 m 24 ls []) := by
  obtain ⟨⟨hx, hb, hr, hts, hown, hlocks, hin, hml⟩, hE, hA⟩ := id C
  have hK := hE.k
  refine lv_iconst (v := 1) hx hb dNl_scanOutputs_24 (by decide) ?_
  obtain rfl := Option.some.inj h
  exact dc_iret hx hb hr hlocks rfl hP hD hS dNl_scanOutputs_25
set_option maxHeartbeats 4000000 in
set_option maxRecDepth 100000 in
theorem bNl_scanOutputs_0 {p : Program} {l : Launch} {e : Env} {s : State} {m : MethodId} {below : List Frame} {meth : Method} {c : Code} {A : Nat → Prop} {D : va_G} {K : Nat → ClassId} {h0 : Nat} {a0 : Nat → Nat} {h1 : Nat} {a1 : Nat → Nat} {AR : Array Value} (C : (dc_C p s m AR meth c cNl_scanOutputs 2 (Option.some Jvm.ClassFile.FieldType.int) yNl_scanOutputs ∧ cf_E D K A s s.heap ∧ ∀ q, s.heap.size ≤ q → A q)) (o0 : cf_O) (o1 : cf_O) (r : Int32 × cf_O) (h : fNl_scanOutputs_0 o0 o1 = some r) {H : Heap} {locs : List Loc} {ls : Array Slot} (hP : va_P D vwCl (wNl K h0 a0 o0 ++ wTx K h1 a1 o1) H) (hD : va_D A (wNl K h0 a0 o0 ++ wTx K h1 a1 o1)) (hS : va_S A s.heap H locs) (hl : lv_has ls 2 [(0, .ref h0), (1, .ref h1)]) : W p l e ({ frames := 5, cells := 0, slots := 0, locals := 108 }) s m AR below meth c H locs 0 0 (MQ below (va_Qi (fun (x : Int32) (_ : Unit) => x = r.1) (fun (_ : Unit) t => cf_At D A (wNl K h0 a0 r.2 ++ wTx K h1 a1 o1) t) A) AR s 0 0 A) (F0 m 0 ls []) := by
  obtain ⟨⟨hx, hb, hr, hts, hown, hlocks, hin, hml⟩, hE, hA⟩ := id C
  have hK := hE.k
  refine lv_aload_n hx hb dNl_scanOutputs_0 rfl (lv_at hl 1 rfl) ?_
  refine lv_iconst (v := 0) hx hb dNl_scanOutputs_1 (by decide) ?_
  refine va_ldcS hx hb hown (hE.s 3 rfl).1 dNl_scanOutputs_2 ?_
  obtain ⟨q_1, hq_1, h⟩ := op_b h
  refine cf_calli (wc := wTx K h1 a1 o1) (wr := wNl K h0 a0 o0) (va_runV (As := [.int 0, .ref (K 103)]) (rest := []) ⟨hx, hb, hml, hown, hts⟩ (mTx_isWord_S3 l D K _ 0 h1 a1 o1 _ hq_1) (cwV 2 hts (cf_GV wv_984 wv_749 wv_750 wv_158 wv_751) rfl rfl rfl (by decide +kernel) ⟨Nat.le_of_ble_eq_true rfl, Nat.le_of_ble_eq_true rfl⟩) (cf_preV (wc := wTx K h1 a1 o1) hE hP hD hS hA rfl 13 rfl [13, 14, 15, 16] rfl (by decide +kernel)) rfl rfl hl.1 rfl (lv_room (Nat.le_of_ble_eq_true rfl)) dNl_scanOutputs_4 ⟨Nat.le_of_ble_eq_true rfl, Nat.le_of_ble_eq_true rfl⟩) hP hD hS hA [13, 14, 15, 16] [0, 1, 2, 3, 4, 5, 6, 7, 8, 9, 10, 11, 12] rfl rfl (by decide +kernel) (by decide +kernel) (fun r_2 _ H locs hw_3 hP hD hS => ?_)
  subst r_2
  have hP : va_P D vwCl (wNl K h0 a0 o0 ++ wTx K h1 a1 o1) H := hP.sub [0, 1, 2, 3, 4, 5, 6, 7, 8, 9, 10, 11, 12, 13, 14, 15, 16] rfl
  have hD : va_D A (wNl K h0 a0 o0 ++ wTx K h1 a1 o1) := hD.sub [0, 1, 2, 3, 4, 5, 6, 7, 8, 9, 10, 11, 12, 13, 14, 15, 16] (by decide +kernel) rfl
  refine lv_if_eq (tgt := 24) hx hb dNl_scanOutputs_7 (by decide) (fun c_4 => ?_) (fun c_4 => ?_)
  · have h := op_t c_4 h
    exact bNl_scanOutputs_24 C _ _ _ h hP hD hS (lv_sub hl [] rfl)
  · have h := op_f c_4 h
    refine lv_aload_n hx hb dNl_scanOutputs_10 rfl (lv_at hl 1 rfl) ?_
    refine lv_aload_n hx hb dNl_scanOutputs_11 rfl (lv_at hl 0 rfl) ?_
    refine va_get (D := D) (ci := 2) (v := .ref (a0 4)) (C := RNl) (T := TNl) (N := 17) hx hb hts inNl hown hK hP 0 rfl rfl 4 (by decide) (hts _ wv_491) (fun _ h9 => h9) rfl dNl_scanOutputs_12 ?_
    refine lv_iconst (v := 0) hx hb dNl_scanOutputs_15 (by decide) ?_
    refine lv_bipush (v := 6) hx hb dNl_scanOutputs_16 (by decide) ?_
    obtain ⟨q_5, hq_5, h⟩ := op_b h
    refine cf_calli (wc := wTx K h1 a1 o1 ++ wNl K h0 a0 o0) (wr := []) (va_runS (As := [.ref h1, .ref (a0 4), .int 0, .int 6]) (rest := []) ⟨hx, hb, hml, hown, hts⟩ (mNl_takeNames_Nl4 l D K _ 0 6 h1 a1 h0 a0 o1 o0 _ hq_5) (va_cwS 4 hts (cf_GS wv_985 wv_986 wv_170 wv_987) rfl rfl rfl (by decide +kernel) ⟨Nat.le_of_ble_eq_true rfl, Nat.le_of_ble_eq_true rfl⟩) (cf_preS (wc := wTx K h1 a1 o1 ++ wNl K h0 a0 o0) hE hP hD hS hA [13, 14, 15, 16, 0, 1, 2, 3, 4, 5, 6, 7, 8, 9, 10, 11, 12] rfl (by decide +kernel)) rfl rfl hl.1 rfl (lv_room (Nat.le_of_ble_eq_true rfl)) dNl_scanOutputs_18 ⟨Nat.le_of_ble_eq_true rfl, Nat.le_of_ble_eq_true rfl⟩) hP hD hS hA [13, 14, 15, 16, 0, 1, 2, 3, 4, 5, 6, 7, 8, 9, 10, 11, 12] [] rfl rfl (by decide +kernel) (by decide +kernel) (fun r_6 _ H locs hw_7 hP hD hS => ?_)
    subst r_6
    have hP : va_P D vwCl (wNl K h0 a0 q_5.2 ++ wTx K h1 a1 o1) H := hP.sub [4, 5, 6, 7, 8, 9, 10, 11, 12, 13, 14, 15, 16, 0, 1, 2, 3] rfl
    have hD : va_D A (wNl K h0 a0 q_5.2 ++ wTx K h1 a1 o1) := hD.sub [4, 5, 6, 7, 8, 9, 10, 11, 12, 13, 14, 15, 16, 0, 1, 2, 3] (by decide +kernel) rfl
    refine lv_if_ne (tgt := 26) hx hb dNl_scanOutputs_21 (by decide) (fun c_8 => ?_) (fun c_8 => ?_)
    · have h := op_f c_8 h
      refine lv_aload_n hx hb dNl_scanOutputs_26 rfl (lv_at hl 0 rfl) ?_
      refine lv_aload_n hx hb dNl_scanOutputs_27 rfl (lv_at hl 1 rfl) ?_
      refine va_get (D := D) (ci := 1) (v := .int (o1.1 5)) (C := RTx) (T := TTx) (N := 7) hx hb hts inTx hown hK hP 13 rfl rfl 5 (by decide) (hts _ wv_214) (fun _ h9 => h9) rfl dNl_scanOutputs_28 ?_
      refine lv_iconst (v := 1) hx hb dNl_scanOutputs_31 (by decide) ?_
      refine lv_isub hx hb dNl_scanOutputs_32 ?_
      refine lv_topi (fun x_9 ex_9 => ?_)
      have h := op_ks ex_9 h
      refine va_put (D := D) (ci := 2) (v := .int x_9) (ty := .int) (C := RNl) (T := TNl) (N := 17) hx hb hts inNl tyNl tyokNl nmNl hown hK hP hD hS 0 rfl rfl 1 (by decide) (hts _ wv_485) (fun _ h9 => h9) rfl (by decide +kernel) rfl rfl (Nat.le_of_ble_eq_true rfl) dNl_scanOutputs_33 (fun H locs hP hD hS => ?_)
      have hP : va_P D vwCl (wNl K h0 a0 (fp q_5.2 1 x_9) ++ wTx K h1 a1 o1) H := hP
      have hD : va_D A (wNl K h0 a0 (fp q_5.2 1 x_9) ++ wTx K h1 a1 o1) := hD
      obtain ⟨o_10, eo_10, h⟩ := op_kx h
      rw [← eo_10] at hP hD
      refine lv_aload_n hx hb dNl_scanOutputs_36 rfl (lv_at hl 0 rfl) ?_
      refine lv_aload_n hx hb dNl_scanOutputs_37 rfl (lv_at hl 1 rfl) ?_
      refine va_get (D := D) (ci := 1) (v := .int (o1.1 4)) (C := RTx) (T := TTx) (N := 7) hx hb hts inTx hown hK hP 13 rfl rfl 4 (by decide) (hts _ wv_210) (fun _ h9 => h9) rfl dNl_scanOutputs_38 ?_
      refine va_put (D := D) (ci := 2) (v := .int (o1.1 4)) (ty := .int) (C := RNl) (T := TNl) (N := 17) hx hb hts inNl tyNl tyokNl nmNl hown hK hP hD hS 0 rfl rfl 5 (by decide) (hts _ wv_493) (fun _ h9 => h9) rfl (by decide +kernel) rfl rfl (Nat.le_of_ble_eq_true rfl) dNl_scanOutputs_41 (fun H locs hP hD hS => ?_)
      have hP : va_P D vwCl (wNl K h0 a0 (fp o_10 5 (o1.1 4)) ++ wTx K h1 a1 o1) H := hP
      have hD : va_D A (wNl K h0 a0 (fp o_10 5 (o1.1 4)) ++ wTx K h1 a1 o1) := hD
      obtain ⟨o_11, eo_11, h⟩ := op_kx h
      rw [← eo_11] at hP hD
      refine lv_aload_n hx hb dNl_scanOutputs_44 rfl (lv_at hl 0 rfl) ?_
      refine va_get (D := D) (ci := 2) (v := .ref (a0 4)) (C := RNl) (T := TNl) (N := 17) hx hb hts inNl hown hK hP 0 rfl rfl 4 (by decide) (hts _ wv_491) (fun _ h9 => h9) rfl dNl_scanOutputs_45 ?_
      refine lv_aload_n hx hb dNl_scanOutputs_48 rfl (lv_at hl 0 rfl) ?_
      refine va_get (D := D) (ci := 2) (v := .int (o_11.1 1)) (C := RNl) (T := TNl) (N := 17) hx hb hts inNl hown hK hP 0 rfl rfl 1 (by decide) (hts _ wv_485) (fun _ h9 => h9) rfl dNl_scanOutputs_49 ?_
      obtain ⟨q_12, hq_12, h⟩ := op_b h
      refine cf_calli (wc := wNl K h0 a0 o_11) (wr := wTx K h1 a1 o1) (va_runS (As := [.ref (a0 4), .int (o_11.1 1)]) (rest := []) ⟨hx, hb, hml, hown, hts⟩ (mNl_hasTwice_Nl4 l D K _ (o_11.1 1) h0 a0 o_11 _ hq_12) (va_cwS 2 hts (cf_GS wv_989 wv_990 wv_170 wv_991) rfl rfl rfl (by decide +kernel) ⟨Nat.le_of_ble_eq_true rfl, Nat.le_of_ble_eq_true rfl⟩) (cf_preS (wc := wNl K h0 a0 o_11) hE hP hD hS hA [0, 1, 2, 3, 4, 5, 6, 7, 8, 9, 10, 11, 12] rfl (by decide +kernel)) rfl rfl hl.1 rfl (lv_room (Nat.le_of_ble_eq_true rfl)) dNl_scanOutputs_52 ⟨Nat.le_of_ble_eq_true rfl, Nat.le_of_ble_eq_true rfl⟩) hP hD hS hA [0, 1, 2, 3, 4, 5, 6, 7, 8, 9, 10, 11, 12] [13, 14, 15, 16] rfl rfl (by decide +kernel) (by decide +kernel) (fun r_13 _ H locs hw_14 hP hD hS => ?_)
      subst r_13
      have hP : va_P D vwCl (wNl K h0 a0 o_11 ++ wTx K h1 a1 o1) H := hP.sub [4, 5, 6, 7, 8, 9, 10, 11, 12, 13, 14, 15, 16, 0, 1, 2, 3] rfl
      have hD : va_D A (wNl K h0 a0 o_11 ++ wTx K h1 a1 o1) := hD.sub [4, 5, 6, 7, 8, 9, 10, 11, 12, 13, 14, 15, 16, 0, 1, 2, 3] (by decide +kernel) rfl
      refine lv_if_eq (tgt := 62) hx hb dNl_scanOutputs_55 (by decide) (fun c_15 => ?_) (fun c_15 => ?_)
      · have h := op_t c_15 h
        refine lv_iconst (v := 0) hx hb dNl_scanOutputs_62 (by decide) ?_
        exact bNl_scanOutputs_63 C _ _ _ _ h hP hD hS (lv_sub hl [] rfl)
      · have h := op_f c_15 h
        refine lv_iconst (v := 2) hx hb dNl_scanOutputs_58 (by decide) ?_
        refine lv_goto (tgt := 63) hx hb dNl_scanOutputs_59 (by decide) ?_
        exact bNl_scanOutputs_63 C _ _ _ _ h hP hD hS (lv_sub hl [] rfl)
    · have h := op_t c_8 h
      exact bNl_scanOutputs_24 C _ _ _ h hP hD hS (lv_sub hl [] rfl)
set_option maxRecDepth 100000 in
theorem mNl_scanOutputs (l : Launch) (D : va_G) (K : Nat → ClassId) (sz : Nat) (h0 : Nat) (a0 : Nat → Nat) (h1 : Nat) (a1 : Nat → Nat) (o0 : cf_O) (o1 : cf_O) (r : Int32 × cf_O) (h : fNl_scanOutputs o0 o1 = some r) : Met l yNl_scanOutputs (Cond.code yNl_scanOutputs cNl_scanOutputs 2 (Option.some Jvm.ClassFile.FieldType.int) :: cfB) ({ frames := 5, cells := 0, slots := 0, locals := 108 }) (va_Pc [.ref h0, .ref h1] (cf_Pre D K sz (wNl K h0 a0 o0 ++ wTx K h1 a1 o1))) (va_Qi (fun (x : Int32) (_ : Unit) => x = r.1) (fun (_ : Unit) t => cf_At D (va_A (wNl K h0 a0 o0 ++ wTx K h1 a1 o1) sz) (wNl K h0 a0 r.2 ++ wTx K h1 a1 o1) t) (va_A (wNl K h0 a0 o0 ++ wTx K h1 a1 o1) sz)) 0 0 (va_A (wNl K h0 a0 o0 ++ wTx K h1 a1 o1) sz) := by
  refine cf_ofW (y := yNl_scanOutputs) (As := [.ref h0, .ref h1]) (WS := wNl K h0 a0 o0 ++ wTx K h1 a1 o1) (maxL := 2) (fun A => (va_Qi (fun (x : Int32) (_ : Unit) => x = r.1) (fun (_ : Unit) t => cf_At D A (wNl K h0 a0 r.2 ++ wTx K h1 a1 o1) t) A)) (by decide) (Nat.le_of_ble_eq_true rfl) ?_
  intro p e s m below meth c A ls En hsz hA hP hD hE hS hl
  have C : (dc_C p s m (([.ref h0, .ref h1] : List Value).toArray) meth c cNl_scanOutputs 2 (Option.some Jvm.ClassFile.FieldType.int) yNl_scanOutputs ∧ cf_E D K A s s.heap ∧ ∀ q, s.heap.size ≤ q → A q) := ⟨En, hE, hA⟩
  exact bNl_scanOutputs_0 C o0 o1 r h hP hD hS hl
set_option maxHeartbeats 4000000 in
set_option maxRecDepth 100000 in
theorem bJString_coder__S4_14 {p : Program} {l : Launch} {e : Env} {s : State} {m : MethodId} {below : List Frame} {meth : Method} {c : Code} {A : Nat → Prop} {D : va_G} {K : Nat → ClassId} {AR : Array Value} (C : (dc_C p s m AR meth c cJString_coder_ 1 (Option.some Jvm.ClassFile.FieldType.byte) yJString_coder_ ∧ cf_E D K A s s.heap ∧ ∀ q, s.heap.size ≤ q → A q)) (s0 : Int32) (r : Int32) (h : fJString_coder__S4_14 s0 = some r) {H : Heap} {locs : List Loc} {ls : Array Slot} (hP : va_P D vwCl ([]) H) (hD : va_D A ([])) (hS : va_S A s.heap H locs) (hl : lv_has ls 1 []) : W p l e ({ frames := 0, cells := 0, slots := 0, locals := 0 }) s m AR below meth c H locs 0 0 (MQ below (va_Qi (fun (x : Int32) (_ : Unit) => x = r) (fun (_ : Unit) t => cf_At D A ([]) t) A) AR s 0 0 A) (F0 m 14 ls [.int s0]) := by
  obtain ⟨⟨hx, hb, hr, hts, hown, hlocks, hin, hml⟩, hE, hA⟩ := id C
  have hK := hE.k
  obtain ⟨hz_1, h⟩ := op_w h
  obtain rfl := Option.some.inj h
  exact dc_zretn hx hb hr (op_nb hz_1) hlocks rfl hP hD hS dJString_coder__14
set_option maxHeartbeats 4000000 in
set_option maxRecDepth 100000 in
theorem bJString_coder__S4_0 {p : Program} {l : Launch} {e : Env} {s : State} {m : MethodId} {below : List Frame} {meth : Method} {c : Code} {A : Nat → Prop} {D : va_G} {K : Nat → ClassId} {AR : Array Value} (C : (dc_C p s m AR meth c cJString_coder_ 1 (Option.some Jvm.ClassFile.FieldType.byte) yJString_coder_ ∧ cf_E D K A s s.heap ∧ ∀ q, s.heap.size ≤ q → A q)) (r : Int32) (h : fJString_coder__S4_0 = some r) {H : Heap} {locs : List Loc} {ls : Array Slot} (hP : va_P D vwCl ([]) H) (hD : va_D A ([])) (hS : va_S A s.heap H locs) (hl : lv_has ls 1 [(0, .ref (K 104))]) : W p l e ({ frames := 0, cells := 0, slots := 0, locals := 0 }) s m AR below meth c H locs 0 0 (MQ below (va_Qi (fun (x : Int32) (_ : Unit) => x = r) (fun (_ : Unit) t => cf_At D A ([]) t) A) AR s 0 0 A) (F0 m 0 ls []) := by
  obtain ⟨⟨hx, hb, hr, hts, hown, hlocks, hin, hml⟩, hE, hA⟩ := id C
  have hK := hE.k
  refine va_gets hx hb hE.2.2.2.2.2.2.1 hS hown (hts _ wv_764) (fun _ h9 => h9) dJString_coder__0 ?_
  refine lv_if_eq (tgt := 13) hx hb dJString_coder__3 (by decide) (fun c_1 => absurd c_1 (by decide)) (fun _ => ?_)
  refine lv_aload_n hx hb dJString_coder__6 rfl (lv_at hl 0 rfl) ?_
  refine vk_getf hx hb (hE.s 4 rfl).2.2.1 hS hown (hts _ wv_1736) (fun _ h9 => h9) dJString_coder__7 ?_
  refine lv_goto (tgt := 14) hx hb dJString_coder__10 (by decide) ?_
  exact bJString_coder__S4_14 C _ _ h hP hD hS (lv_sub hl [] rfl)
set_option maxRecDepth 100000 in
theorem mJString_coder__S4 (l : Launch) (D : va_G) (K : Nat → ClassId) (sz : Nat) (r : Int32) (h : fJString_coder__S4 = some r) : Met l yJString_coder_ (Cond.code yJString_coder_ cJString_coder_ 1 (Option.some Jvm.ClassFile.FieldType.byte) :: cfB) ({ frames := 0, cells := 0, slots := 0, locals := 0 }) (va_Pc [.ref (K 104)] (cf_Pre D K sz ([]))) (va_Qi (fun (x : Int32) (_ : Unit) => x = r) (fun (_ : Unit) t => cf_At D (va_A ([]) sz) ([]) t) (va_A ([]) sz)) 0 0 (va_A ([]) sz) := by
  refine cf_ofW (y := yJString_coder_) (As := [.ref (K 104)]) (WS := []) (maxL := 1) (fun A => (va_Qi (fun (x : Int32) (_ : Unit) => x = r) (fun (_ : Unit) t => cf_At D A ([]) t) A)) (by decide) (Nat.le_of_ble_eq_true rfl) ?_
  intro p e s m below meth c A ls En hsz hA hP hD hE hS hl
  have C : (dc_C p s m (([.ref (K 104)] : List Value).toArray) meth c cJString_coder_ 1 (Option.some Jvm.ClassFile.FieldType.byte) yJString_coder_ ∧ cf_E D K A s s.heap ∧ ∀ q, s.heap.size ≤ q → A q) := ⟨En, hE, hA⟩
  exact bJString_coder__S4_0 C r h hP hD hS hl
set_option maxHeartbeats 4000000 in
set_option maxRecDepth 100000 in
theorem bJString_length__S4_0 {p : Program} {l : Launch} {e : Env} {s : State} {m : MethodId} {below : List Frame} {meth : Method} {c : Code} {A : Nat → Prop} {D : va_G} {K : Nat → ClassId} {AR : Array Value} (C : (dc_C p s m AR meth c cJString_length_ 1 (Option.some Jvm.ClassFile.FieldType.int) yJString_length_ ∧ cf_E D K A s s.heap ∧ ∀ q, s.heap.size ≤ q → A q)) (r : Int32) (h : fJString_length__S4_0 = some r) {H : Heap} {locs : List Loc} {ls : Array Slot} (hP : va_P D vwCl ([]) H) (hD : va_D A ([])) (hS : va_S A s.heap H locs) (hl : lv_has ls 1 [(0, .ref (K 104))]) : W p l e ({ frames := 1, cells := 0, slots := 0, locals := 20 }) s m AR below meth c H locs 0 0 (MQ below (va_Qi (fun (x : Int32) (_ : Unit) => x = r) (fun (_ : Unit) t => cf_At D A ([]) t) A) AR s 0 0 A) (F0 m 0 ls []) := by
  obtain ⟨⟨hx, hb, hr, hts, hown, hlocks, hin, hml⟩, hE, hA⟩ := id C
  have hK := hE.k
  refine lv_aload_n hx hb dJString_length__0 rfl (lv_at hl 0 rfl) ?_
  refine vk_getf hx hb (hE.s 4 rfl).2.2.2.1 hS hown (hts _ wv_1735) (fun _ h9 => h9) dJString_length__1 ?_
  refine va_tlen (v := 4) hx hb (hE.s 4 rfl).2.2.2.2 hS rfl dJString_length__4 ?_
  refine lv_aload_n hx hb dJString_length__5 rfl (lv_at hl 0 rfl) ?_
  obtain ⟨q_1, hq_1, h⟩ := op_b h
  refine cf_calli (wc := []) (wr := []) (va_runV (As := []) (rest := [.int 4]) ⟨hx, hb, hml, hown, hts⟩ (mJString_coder__S4 l D K _ _ hq_1) (cwV 0 hts (cf_GV wv_760 wv_761 wv_762 wv_168 wv_763) rfl rfl rfl (by decide +kernel) ⟨Nat.le_of_ble_eq_true rfl, Nat.le_of_ble_eq_true rfl⟩) (cf_preO (wc := []) (hE.s 4 rfl).2.1 hE hP hD hS hA [] rfl (by decide +kernel)) rfl rfl hl.1 rfl (lv_room (Nat.le_of_ble_eq_true rfl)) dJString_length__6 ⟨Nat.le_of_ble_eq_true rfl, Nat.le_of_ble_eq_true rfl⟩) hP hD hS hA [] [] rfl rfl (by decide +kernel) (by decide +kernel) (fun r_2 _ H locs hw_3 hP hD hS => ?_)
  subst r_2
  have hP : va_P D vwCl ([]) H := hP.sub [] rfl
  have hD : va_D A ([]) := hD.sub [] (by decide +kernel) rfl
  refine lv_ishr hx hb dJString_length__9 ?_
  refine lv_topi (fun x_4 ex_4 => ?_)
  have h := op_ks ex_4 h
  obtain rfl := Option.some.inj h
  exact dc_iret hx hb hr hlocks rfl hP hD hS dJString_length__10
set_option maxRecDepth 100000 in
theorem mJString_length__S4 (l : Launch) (D : va_G) (K : Nat → ClassId) (sz : Nat) (r : Int32) (h : fJString_length__S4 = some r) : Met l yJString_length_ (Cond.code yJString_length_ cJString_length_ 1 (Option.some Jvm.ClassFile.FieldType.int) :: cfB) ({ frames := 1, cells := 0, slots := 0, locals := 20 }) (va_Pc [.ref (K 104)] (cf_Pre D K sz ([]))) (va_Qi (fun (x : Int32) (_ : Unit) => x = r) (fun (_ : Unit) t => cf_At D (va_A ([]) sz) ([]) t) (va_A ([]) sz)) 0 0 (va_A ([]) sz) := by
  refine cf_ofW (y := yJString_length_) (As := [.ref (K 104)]) (WS := []) (maxL := 1) (fun A => (va_Qi (fun (x : Int32) (_ : Unit) => x = r) (fun (_ : Unit) t => cf_At D A ([]) t) A)) (by decide) (Nat.le_of_ble_eq_true rfl) ?_
  intro p e s m below meth c A ls En hsz hA hP hD hE hS hl
  have C : (dc_C p s m (([.ref (K 104)] : List Value).toArray) meth c cJString_length_ 1 (Option.some Jvm.ClassFile.FieldType.int) yJString_length_ ∧ cf_E D K A s s.heap ∧ ∀ q, s.heap.size ≤ q → A q) := ⟨En, hE, hA⟩
  exact bJString_length__S4_0 C r h hP hD hS hl
set_option maxHeartbeats 4000000 in
set_option maxRecDepth 100000 in
theorem bJString_isLatin1__S4_18 {p : Program} {l : Launch} {e : Env} {s : State} {m : MethodId} {below : List Frame} {meth : Method} {c : Code} {A : Nat → Prop} {D : va_G} {K : Nat → ClassId} {AR : Array Value} (C : (dc_C p s m AR meth c cJString_isLatin1_ 1 (Option.some Jvm.ClassFile.FieldType.boolean) yJString_isLatin1_ ∧ cf_E D K A s s.heap ∧ ∀ q, s.heap.size ≤ q → A q)) (s0 : Int32) (r : Int32) (h : fJString_isLatin1__S4_18 s0 = some r) {H : Heap} {locs : List Loc} {ls : Array Slot} (hP : va_P D vwCl ([]) H) (hD : va_D A ([])) (hS : va_S A s.heap H locs) (hl : lv_has ls 1 []) : W p l e ({ frames := 0, cells := 0, slots := 0, locals := 0 }) s m AR below meth c H locs 0 0 (MQ below (va_Qi (fun (x : Int32) (_ : Unit) => x = r) (fun (_ : Unit) t => cf_At D A ([]) t) A) AR s 0 0 A) (F0 m 18 ls [.int s0]) := by
  obtain ⟨⟨hx, hb, hr, hts, hown, hlocks, hin, hml⟩, hE, hA⟩ := id C
  have hK := hE.k
  obtain ⟨hz_1, h⟩ := op_w h
  obtain rfl := Option.some.inj h
  exact dc_zret hx hb hr (op_z hz_1) hlocks rfl hP hD hS dJString_isLatin1__18
set_option maxHeartbeats 4000000 in
set_option maxRecDepth 100000 in
theorem bJString_isLatin1__S4_17 {p : Program} {l : Launch} {e : Env} {s : State} {m : MethodId} {below : List Frame} {meth : Method} {c : Code} {A : Nat → Prop} {D : va_G} {K : Nat → ClassId} {AR : Array Value} (C : (dc_C p s m AR meth c cJString_isLatin1_ 1 (Option.some Jvm.ClassFile.FieldType.boolean) yJString_isLatin1_ ∧ cf_E D K A s s.heap ∧ ∀ q, s.heap.size ≤ q → A q)) (r : Int32) (h : fJString_isLatin1__S4_17 = some r) {H : Heap} {locs : List Loc} {ls : Array Slot} (hP : va_P D vwCl ([]) H) (hD : va_D A ([])) (hS : va_S A s.heap H locs) (hl : lv_has ls 1 []) : W p l e ({ frames := 0, cells := 0, slots := 0, locals := 0 }) s m AR below meth c H locs 0 0 (MQ below (va_Qi (fun (x : Int32) (_ : Unit) => x = r) (fun (_ : Unit) t => cf_At D A ([]) t) A) AR s 0 0 A) (F0 m 17 ls []) := by
  obtain ⟨⟨hx, hb, hr, hts, hown, hlocks, hin, hml⟩, hE, hA⟩ := id C
  have hK := hE.k
  refine lv_iconst (v := 0) hx hb dJString_isLatin1__17 (by decide) ?_
  exact bJString_isLatin1__S4_18 C _ _ h hP hD hS (lv_sub hl [] rfl)
set_option maxHeartbeats 4000000 in
set_option maxRecDepth 100000 in
theorem bJString_isLatin1__S4_0 {p : Program} {l : Launch} {e : Env} {s : State} {m : MethodId} {below : List Frame} {meth : Method} {c : Code} {A : Nat → Prop} {D : va_G} {K : Nat → ClassId} {AR : Array Value} (C : (dc_C p s m AR meth c cJString_isLatin1_ 1 (Option.some Jvm.ClassFile.FieldType.boolean) yJString_isLatin1_ ∧ cf_E D K A s s.heap ∧ ∀ q, s.heap.size ≤ q → A q)) (r : Int32) (h : fJString_isLatin1__S4_0 = some r) {H : Heap} {locs : List Loc} {ls : Array Slot} (hP : va_P D vwCl ([]) H) (hD : va_D A ([])) (hS : va_S A s.heap H locs) (hl : lv_has ls 1 [(0, .ref (K 104))]) : W p l e ({ frames := 0, cells := 0, slots := 0, locals := 0 }) s m AR below meth c H locs 0 0 (MQ below (va_Qi (fun (x : Int32) (_ : Unit) => x = r) (fun (_ : Unit) t => cf_At D A ([]) t) A) AR s 0 0 A) (F0 m 0 ls []) := by
  obtain ⟨⟨hx, hb, hr, hts, hown, hlocks, hin, hml⟩, hE, hA⟩ := id C
  have hK := hE.k
  refine va_gets hx hb hE.2.2.2.2.2.2.1 hS hown (hts _ wv_764) (fun _ h9 => h9) dJString_isLatin1__0 ?_
  refine lv_if_eq (tgt := 17) hx hb dJString_isLatin1__3 (by decide) (fun c_1 => absurd c_1 (by decide)) (fun _ => ?_)
  refine lv_aload_n hx hb dJString_isLatin1__6 rfl (lv_at hl 0 rfl) ?_
  refine vk_getf hx hb (hE.s 4 rfl).2.2.1 hS hown (hts _ wv_1736) (fun _ h9 => h9) dJString_isLatin1__7 ?_
  refine lv_if_ne (tgt := 17) hx hb dJString_isLatin1__10 (by decide) (fun c_2 => absurd (by decide) c_2) (fun _ => ?_)
  refine lv_iconst (v := 1) hx hb dJString_isLatin1__13 (by decide) ?_
  refine lv_goto (tgt := 18) hx hb dJString_isLatin1__14 (by decide) ?_
  exact bJString_isLatin1__S4_18 C _ _ h hP hD hS (lv_sub hl [] rfl)
set_option maxRecDepth 100000 in
theorem mJString_isLatin1__S4 (l : Launch) (D : va_G) (K : Nat → ClassId) (sz : Nat) (r : Int32) (h : fJString_isLatin1__S4 = some r) : Met l yJString_isLatin1_ (Cond.code yJString_isLatin1_ cJString_isLatin1_ 1 (Option.some Jvm.ClassFile.FieldType.boolean) :: cfB) ({ frames := 0, cells := 0, slots := 0, locals := 0 }) (va_Pc [.ref (K 104)] (cf_Pre D K sz ([]))) (va_Qi (fun (x : Int32) (_ : Unit) => x = r) (fun (_ : Unit) t => cf_At D (va_A ([]) sz) ([]) t) (va_A ([]) sz)) 0 0 (va_A ([]) sz) := by
  refine cf_ofW (y := yJString_isLatin1_) (As := [.ref (K 104)]) (WS := []) (maxL := 1) (fun A => (va_Qi (fun (x : Int32) (_ : Unit) => x = r) (fun (_ : Unit) t => cf_At D A ([]) t) A)) (by decide) (Nat.le_of_ble_eq_true rfl) ?_
  intro p e s m below meth c A ls En hsz hA hP hD hE hS hl
  have C : (dc_C p s m (([.ref (K 104)] : List Value).toArray) meth c cJString_isLatin1_ 1 (Option.some Jvm.ClassFile.FieldType.boolean) yJString_isLatin1_ ∧ cf_E D K A s s.heap ∧ ∀ q, s.heap.size ≤ q → A q) := ⟨En, hE, hA⟩
  exact bJString_isLatin1__S4_0 C r h hP hD hS hl
set_option maxHeartbeats 4000000 in
set_option maxRecDepth 100000 in
theorem bJStringLatin1_charAt_ABI_B4_0 {p : Program} {l : Launch} {e : Env} {s : State} {m : MethodId} {below : List Frame} {meth : Method} {c : Code} {A : Nat → Prop} {D : va_G} {K : Nat → ClassId} {AR : Array Value} (C : (dc_C p s m AR meth c cJStringLatin1_charAt_ABI 2 (Option.some Jvm.ClassFile.FieldType.char) yJStringLatin1_charAt_ABI ∧ cf_E D K A s s.heap ∧ ∀ q, s.heap.size ≤ q → A q)) (v1 : Int32) (r : Int32) (h : fJStringLatin1_charAt_ABI_B4_0 v1 = some r) {H : Heap} {locs : List Loc} {ls : Array Slot} (hP : va_P D vwCl ([]) H) (hD : va_D A ([])) (hS : va_S A s.heap H locs) (hl : lv_has ls 2 [(0, .ref (K 204)), (1, .int v1)]) : W p l e ({ frames := 2, cells := 0, slots := 0, locals := 43 }) s m AR below meth c H locs 0 0 (MQ below (va_Qi (fun (x : Int32) (_ : Unit) => x = r) (fun (_ : Unit) t => cf_At D A ([]) t) A) AR s 0 0 A) (F0 m 0 ls []) := by
  obtain ⟨⟨hx, hb, hr, hts, hown, hlocks, hin, hml⟩, hE, hA⟩ := id C
  have hK := hE.k
  refine lv_iload_n hx hb dJStringLatin1_charAt_ABI_0 rfl (lv_at hl 1 rfl) ?_
  refine lv_aload_n hx hb dJStringLatin1_charAt_ABI_1 rfl (lv_at hl 0 rfl) ?_
  refine va_tlen (v := 4) hx hb (hE.s 4 rfl).2.2.2.2 hS rfl dJStringLatin1_charAt_ABI_2 ?_
  obtain ⟨q_1, hq_1, h⟩ := op_b h
  refine dc_callv (va_runS (As := [.int v1, .int 4]) (rest := []) ⟨hx, hb, hml, hown, hts⟩ (mJString_checkIndex_II l D K _ v1 4 _ hq_1) (va_cwS 2 hts (cf_GS wv_780 wv_781 wv_168 wv_782) rfl rfl rfl (by decide +kernel) ⟨Nat.le_of_ble_eq_true rfl, Nat.le_of_ble_eq_true rfl⟩) (dc_preS hE hP hD hS hA) rfl rfl hl.1 rfl (lv_room (Nat.le_of_ble_eq_true rfl)) dJStringLatin1_charAt_ABI_3 ⟨Nat.le_of_ble_eq_true rfl, Nat.le_of_ble_eq_true rfl⟩) hP hD hS hA (fun H locs hP hD hS => ?_)
  refine lv_aload_n hx hb dJStringLatin1_charAt_ABI_6 rfl (lv_at hl 0 rfl) ?_
  refine lv_iload_n hx hb dJStringLatin1_charAt_ABI_7 rfl (lv_at hl 1 rfl) ?_
  obtain ⟨hi_3, h⟩ := op_n h
  refine va_tb hx hb (hE.s 4 rfl).2.2.2.2 hS (i := v1) hi_3 (v := .int (cf_sb 4 v1.toNatClampNeg)) rfl dJStringLatin1_charAt_ABI_8 ?_
  refine lv_topi (fun x_4 ex_4 => ?_)
  have h := op_ks ex_4 h
  refine lv_sipush (v := 255) hx hb dJStringLatin1_charAt_ABI_9 (by decide) ?_
  refine lv_iand hx hb dJStringLatin1_charAt_ABI_12 ?_
  refine lv_topi (fun x_5 ex_5 => ?_)
  have h := op_ks ex_5 h
  refine lv_i2c hx hb dJStringLatin1_charAt_ABI_13 rfl ?_
  refine lv_topi (fun x_6 ex_6 => ?_)
  have h := op_ks ex_6 h
  obtain ⟨hz_7, h⟩ := op_w h
  obtain rfl := Option.some.inj h
  exact dc_zretn hx hb hr (op_nc hz_7) hlocks rfl hP hD hS dJStringLatin1_charAt_ABI_14
set_option maxRecDepth 100000 in
theorem mJStringLatin1_charAt_ABI_B4 (l : Launch) (D : va_G) (K : Nat → ClassId) (sz : Nat) (v1 : Int32) (r : Int32) (h : fJStringLatin1_charAt_ABI_B4 v1 = some r) : Met l yJStringLatin1_charAt_ABI (Cond.code yJStringLatin1_charAt_ABI cJStringLatin1_charAt_ABI 2 (Option.some Jvm.ClassFile.FieldType.char) :: cfB) ({ frames := 2, cells := 0, slots := 0, locals := 43 }) (va_Pc [.ref (K 204), .int v1] (cf_Pre D K sz ([]))) (va_Qi (fun (x : Int32) (_ : Unit) => x = r) (fun (_ : Unit) t => cf_At D (va_A ([]) sz) ([]) t) (va_A ([]) sz)) 0 0 (va_A ([]) sz) := by
  refine cf_ofW (y := yJStringLatin1_charAt_ABI) (As := [.ref (K 204), .int v1]) (WS := []) (maxL := 2) (fun A => (va_Qi (fun (x : Int32) (_ : Unit) => x = r) (fun (_ : Unit) t => cf_At D A ([]) t) A)) (by decide) (Nat.le_of_ble_eq_true rfl) ?_
  intro p e s m below meth c A ls En hsz hA hP hD hE hS hl
  have C : (dc_C p s m (([.ref (K 204), .int v1] : List Value).toArray) meth c cJStringLatin1_charAt_ABI 2 (Option.some Jvm.ClassFile.FieldType.char) yJStringLatin1_charAt_ABI ∧ cf_E D K A s s.heap ∧ ∀ q, s.heap.size ≤ q → A q) := ⟨En, hE, hA⟩
  exact bJStringLatin1_charAt_ABI_B4_0 C v1 r h hP hD hS hl
set_option maxHeartbeats 4000000 in
set_option maxRecDepth 100000 in
theorem bJString_charAt_I_S4_0 {p : Program} {l : Launch} {e : Env} {s : State} {m : MethodId} {below : List Frame} {meth : Method} {c : Code} {A : Nat → Prop} {D : va_G} {K : Nat → ClassId} {AR : Array Value} (C : (dc_C p s m AR meth c cJString_charAt_I 2 (Option.some Jvm.ClassFile.FieldType.char) yJString_charAt_I ∧ cf_E D K A s s.heap ∧ ∀ q, s.heap.size ≤ q → A q)) (v1 : Int32) (r : Int32) (h : fJString_charAt_I_S4_0 v1 = some r) {H : Heap} {locs : List Loc} {ls : Array Slot} (hP : va_P D vwCl ([]) H) (hD : va_D A ([])) (hS : va_S A s.heap H locs) (hl : lv_has ls 2 [(0, .ref (K 104)), (1, .int v1)]) : W p l e ({ frames := 3, cells := 0, slots := 0, locals := 64 }) s m AR below meth c H locs 0 0 (MQ below (va_Qi (fun (x : Int32) (_ : Unit) => x = r) (fun (_ : Unit) t => cf_At D A ([]) t) A) AR s 0 0 A) (F0 m 0 ls []) := by
  obtain ⟨⟨hx, hb, hr, hts, hown, hlocks, hin, hml⟩, hE, hA⟩ := id C
  have hK := hE.k
  refine lv_aload_n hx hb dJString_charAt_I_0 rfl (lv_at hl 0 rfl) ?_
  obtain ⟨q_1, hq_1, h⟩ := op_b h
  refine cf_calli (wc := []) (wr := []) (va_runV (As := []) (rest := []) ⟨hx, hb, hml, hown, hts⟩ (mJString_isLatin1__S4 l D K _ _ hq_1) (cwV 0 hts (cf_GV wv_773 wv_774 wv_775 wv_168 wv_776) rfl rfl rfl (by decide +kernel) ⟨Nat.le_of_ble_eq_true rfl, Nat.le_of_ble_eq_true rfl⟩) (cf_preO (wc := []) (hE.s 4 rfl).2.1 hE hP hD hS hA [] rfl (by decide +kernel)) rfl rfl hl.1 rfl (lv_room (Nat.le_of_ble_eq_true rfl)) dJString_charAt_I_1 ⟨Nat.le_of_ble_eq_true rfl, Nat.le_of_ble_eq_true rfl⟩) hP hD hS hA [] [] rfl rfl (by decide +kernel) (by decide +kernel) (fun r_2 _ H locs hw_3 hP hD hS => ?_)
  subst r_2
  have hP : va_P D vwCl ([]) H := hP.sub [] rfl
  have hD : va_D A ([]) := hD.sub [] (by decide +kernel) rfl
  refine lv_if_eq (tgt := 16) hx hb dJString_charAt_I_4 (by decide) (fun c_4 => ?_) (fun c_4 => ?_)
  · have h := op_t c_4 h
    refine lv_aload_n hx hb dJString_charAt_I_16 rfl (lv_at hl 0 rfl) ?_
    refine vk_getf hx hb (hE.s 4 rfl).2.2.2.1 hS hown (hts _ wv_1735) (fun _ h9 => h9) dJString_charAt_I_17 ?_
    refine lv_iload_n hx hb dJString_charAt_I_20 rfl (lv_at hl 1 rfl) ?_
    cases h
  · have h := op_f c_4 h
    refine lv_aload_n hx hb dJString_charAt_I_7 rfl (lv_at hl 0 rfl) ?_
    refine vk_getf hx hb (hE.s 4 rfl).2.2.2.1 hS hown (hts _ wv_1735) (fun _ h9 => h9) dJString_charAt_I_8 ?_
    refine lv_iload_n hx hb dJString_charAt_I_11 rfl (lv_at hl 1 rfl) ?_
    obtain ⟨q_5, hq_5, h⟩ := op_b h
    refine dc_calli (va_runS (As := [.ref (K 204), .int v1]) (rest := []) ⟨hx, hb, hml, hown, hts⟩ (mJStringLatin1_charAt_ABI_B4 l D K _ v1 _ hq_5) (va_cwS 2 hts (cf_GS wv_777 wv_778 wv_179 wv_779) rfl rfl rfl (by decide +kernel) ⟨Nat.le_of_ble_eq_true rfl, Nat.le_of_ble_eq_true rfl⟩) (dc_preS hE hP hD hS hA) rfl rfl hl.1 rfl (lv_room (Nat.le_of_ble_eq_true rfl)) dJString_charAt_I_12 ⟨Nat.le_of_ble_eq_true rfl, Nat.le_of_ble_eq_true rfl⟩) hP hD hS hA (fun r_6 H locs hw_7 hP hD hS => ?_)
    subst r_6
    obtain ⟨hz_8, h⟩ := op_w h
    obtain rfl := Option.some.inj h
    exact dc_zretn hx hb hr (op_nc hz_8) hlocks rfl hP hD hS dJString_charAt_I_15
set_option maxRecDepth 100000 in
theorem mJString_charAt_I_S4 (l : Launch) (D : va_G) (K : Nat → ClassId) (sz : Nat) (v1 : Int32) (r : Int32) (h : fJString_charAt_I_S4 v1 = some r) : Met l yJString_charAt_I (Cond.code yJString_charAt_I cJString_charAt_I 2 (Option.some Jvm.ClassFile.FieldType.char) :: cfB) ({ frames := 3, cells := 0, slots := 0, locals := 64 }) (va_Pc [.ref (K 104), .int v1] (cf_Pre D K sz ([]))) (va_Qi (fun (x : Int32) (_ : Unit) => x = r) (fun (_ : Unit) t => cf_At D (va_A ([]) sz) ([]) t) (va_A ([]) sz)) 0 0 (va_A ([]) sz) := by
  refine cf_ofW (y := yJString_charAt_I) (As := [.ref (K 104), .int v1]) (WS := []) (maxL := 2) (fun A => (va_Qi (fun (x : Int32) (_ : Unit) => x = r) (fun (_ : Unit) t => cf_At D A ([]) t) A)) (by decide) (Nat.le_of_ble_eq_true rfl) ?_
  intro p e s m below meth c A ls En hsz hA hP hD hE hS hl
  have C : (dc_C p s m (([.ref (K 104), .int v1] : List Value).toArray) meth c cJString_charAt_I 2 (Option.some Jvm.ClassFile.FieldType.char) yJString_charAt_I ∧ cf_E D K A s s.heap ∧ ∀ q, s.heap.size ≤ q → A q) := ⟨En, hE, hA⟩
  exact bJString_charAt_I_S4_0 C v1 r h hP hD hS hl
def IhTx_isWord_S4 (p : Program) (l : Launch) (e : Env) (s : State) (m : MethodId) (below : List Frame) (meth : Method) (c : Code) (A : Nat → Prop) (D : va_G) (K : Nat → ClassId) (h0 : Nat) (a0 : Nat → Nat) (AR : Array Value) (n : Nat) : Prop := (∀ (v1 : Int32) (v3 : Int32) (o0 : cf_O) (r : Int32), gTx_isWord_S4 n 0 v1 v3 o0 = some r → ∀ {H : Heap} {locs : List Loc} {ls : Array Slot}, (va_P D vwCl (wTx K h0 a0 o0) H) → (va_D A (wTx K h0 a0 o0)) → va_S A s.heap H locs → lv_has ls 4 [(0, .ref h0), (1, .int v1), (2, .ref (K 104)), (3, .int v3)] → W p l e ({ frames := 4, cells := 0, slots := 0, locals := 85 }) s m AR below meth c H locs 0 0 (MQ below (va_Qi (fun (x : Int32) (_ : Unit) => x = r) (fun (_ : Unit) t => cf_At D A (wTx K h0 a0 o0) t) A) AR s 0 0 A) (F0 m 16 ls []))
set_option maxHeartbeats 4000000 in
set_option maxRecDepth 100000 in
theorem bTx_isWord_S4_16 {p : Program} {l : Launch} {e : Env} {s : State} {m : MethodId} {below : List Frame} {meth : Method} {c : Code} {A : Nat → Prop} {D : va_G} {K : Nat → ClassId} {h0 : Nat} {a0 : Nat → Nat} {AR : Array Value} (C : (dc_C p s m AR meth c cTx_isWord 4 (Option.some Jvm.ClassFile.FieldType.boolean) yTx_isWord ∧ cf_E D K A s s.heap ∧ ∀ q, s.heap.size ≤ q → A q)) {n : Nat} (ih : IhTx_isWord_S4 p l e s m below meth c A D K h0 a0 AR n) (v1 : Int32) (v3 : Int32) (o0 : cf_O) (r : Int32) (h : fTx_isWord_S4_16 (gTx_isWord_S4 n) v1 v3 o0 = some r) {H : Heap} {locs : List Loc} {ls : Array Slot} (hP : va_P D vwCl (wTx K h0 a0 o0) H) (hD : va_D A (wTx K h0 a0 o0)) (hS : va_S A s.heap H locs) (hl : lv_has ls 4 [(0, .ref h0), (1, .int v1), (2, .ref (K 104)), (3, .int v3)]) : W p l e ({ frames := 4, cells := 0, slots := 0, locals := 85 }) s m AR below meth c H locs 0 0 (MQ below (va_Qi (fun (x : Int32) (_ : Unit) => x = r) (fun (_ : Unit) t => cf_At D A (wTx K h0 a0 o0) t) A) AR s 0 0 A) (F0 m 16 ls []) := by
  obtain ⟨⟨hx, hb, hr, hts, hown, hlocks, hin, hml⟩, hE, hA⟩ := id C
  have hK := hE.k
  refine lv_iload_n hx hb dTx_isWord_16 rfl (lv_at hl 3 rfl) ?_
  refine lv_aload_n hx hb dTx_isWord_17 rfl (lv_at hl 2 rfl) ?_
  obtain ⟨q_1, hq_1, h⟩ := op_b h
  refine cf_calli (wc := []) (wr := wTx K h0 a0 o0) (va_runV (As := []) (rest := [.int v3]) ⟨hx, hb, hml, hown, hts⟩ (mJString_length__S4 l D K _ _ hq_1) (cwV 0 hts (cf_GV wv_756 wv_757 wv_758 wv_168 wv_759) rfl rfl rfl (by decide +kernel) ⟨Nat.le_of_ble_eq_true rfl, Nat.le_of_ble_eq_true rfl⟩) (cf_preO (wc := []) (hE.s 4 rfl).2.1 hE hP hD hS hA [] rfl (by decide +kernel)) rfl rfl hl.1 rfl (lv_room (Nat.le_of_ble_eq_true rfl)) dTx_isWord_18 ⟨Nat.le_of_ble_eq_true rfl, Nat.le_of_ble_eq_true rfl⟩) hP hD hS hA [] [0, 1, 2, 3] rfl rfl (by decide +kernel) (by decide +kernel) (fun r_2 _ H locs hw_3 hP hD hS => ?_)
  subst r_2
  have hP : va_P D vwCl (wTx K h0 a0 o0) H := hP.sub [0, 1, 2, 3] rfl
  have hD : va_D A (wTx K h0 a0 o0) := hD.sub [0, 1, 2, 3] (by decide +kernel) rfl
  refine lv_icmp_ge (tgt := 46) hx hb dTx_isWord_21 (by decide) (fun c_4 => ?_) (fun c_4 => ?_)
  · have h := op_t c_4 h
    refine lv_iconst (v := 1) hx hb dTx_isWord_46 (by decide) ?_
    obtain rfl := Option.some.inj h
    exact dc_zret hx hb hr rfl hlocks rfl hP hD hS dTx_isWord_47
  · have h := op_f c_4 h
    refine lv_aload_n hx hb dTx_isWord_24 rfl (lv_at hl 0 rfl) ?_
    refine lv_iload_n hx hb dTx_isWord_25 rfl (lv_at hl 1 rfl) ?_
    refine lv_iload_n hx hb dTx_isWord_26 rfl (lv_at hl 3 rfl) ?_
    obtain ⟨q_5, hq_5, h⟩ := op_b h
    refine dc_calli (va_runV (As := [.int v1, .int v3]) (rest := []) ⟨hx, hb, hml, hown, hts⟩ (mTx_signOf l D K _ v1 v3 h0 a0 o0 _ hq_5) (cwV 2 hts (cf_GV wv_765 wv_766 wv_767 wv_158 wv_768) rfl rfl rfl (by decide +kernel) ⟨Nat.le_of_ble_eq_true rfl, Nat.le_of_ble_eq_true rfl⟩) (dc_preV hE hP hD hS hA rfl 0 rfl) rfl rfl hl.1 rfl (lv_room (Nat.le_of_ble_eq_true rfl)) dTx_isWord_27 ⟨Nat.le_of_ble_eq_true rfl, Nat.le_of_ble_eq_true rfl⟩) hP hD hS hA (fun r_6 H locs hw_7 hP hD hS => ?_)
    subst r_6
    refine lv_aload_n hx hb dTx_isWord_30 rfl (lv_at hl 2 rfl) ?_
    refine lv_iload_n hx hb dTx_isWord_31 rfl (lv_at hl 3 rfl) ?_
    obtain ⟨q_8, hq_8, h⟩ := op_b h
    refine cf_calli (wc := []) (wr := wTx K h0 a0 o0) (va_runV (As := [.int v3]) (rest := [.int q_5]) ⟨hx, hb, hml, hown, hts⟩ (mJString_charAt_I_S4 l D K _ v3 _ hq_8) (cwV 1 hts (cf_GV wv_769 wv_770 wv_771 wv_168 wv_772) rfl rfl rfl (by decide +kernel) ⟨Nat.le_of_ble_eq_true rfl, Nat.le_of_ble_eq_true rfl⟩) (cf_preO (wc := []) (hE.s 4 rfl).2.1 hE hP hD hS hA [] rfl (by decide +kernel)) rfl rfl hl.1 rfl (lv_room (Nat.le_of_ble_eq_true rfl)) dTx_isWord_32 ⟨Nat.le_of_ble_eq_true rfl, Nat.le_of_ble_eq_true rfl⟩) hP hD hS hA [] [0, 1, 2, 3] rfl rfl (by decide +kernel) (by decide +kernel) (fun r_9 _ H locs hw_10 hP hD hS => ?_)
    subst r_9
    have hP : va_P D vwCl (wTx K h0 a0 o0) H := hP.sub [0, 1, 2, 3] rfl
    have hD : va_D A (wTx K h0 a0 o0) := hD.sub [0, 1, 2, 3] (by decide +kernel) rfl
    refine lv_icmp_eq (tgt := 40) hx hb dTx_isWord_35 (by decide) (fun c_11 => ?_) (fun c_11 => ?_)
    · have h := op_t c_11 h
      obtain ⟨x_12, ex_12⟩ : ∃ y : Int32, y = v3 + 1 := ⟨_, rfl⟩
      refine lv_iinc (v := x_12) (lv' := [(3, .int x_12), (0, .ref h0), (1, .int v1), (2, .ref (K 104))]) hx hb dTx_isWord_40 hl (k := 3) rfl (by rw [ex_12]; rfl) (by decide) rfl (fun ls hl => ?_)
      have h := op_ks ex_12 h
      refine lv_goto (tgt := 16) hx hb dTx_isWord_43 (by decide) ?_
      exact (ih) _ _ _ _ h hP hD hS (lv_sub hl [1, 2, 3, 0] rfl)
    · have h := op_f c_11 h
      refine lv_iconst (v := 0) hx hb dTx_isWord_38 (by decide) ?_
      obtain rfl := Option.some.inj h
      exact dc_zret hx hb hr rfl hlocks rfl hP hD hS dTx_isWord_39
set_option maxHeartbeats 4000000 in
set_option maxRecDepth 100000 in
theorem bTx_isWord_S4_0 {p : Program} {l : Launch} {e : Env} {s : State} {m : MethodId} {below : List Frame} {meth : Method} {c : Code} {A : Nat → Prop} {D : va_G} {K : Nat → ClassId} {h0 : Nat} {a0 : Nat → Nat} {AR : Array Value} (C : (dc_C p s m AR meth c cTx_isWord 4 (Option.some Jvm.ClassFile.FieldType.boolean) yTx_isWord ∧ cf_E D K A s s.heap ∧ ∀ q, s.heap.size ≤ q → A q)) {n : Nat} (ih : IhTx_isWord_S4 p l e s m below meth c A D K h0 a0 AR n) (v1 : Int32) (o0 : cf_O) (r : Int32) (h : fTx_isWord_S4_0 (gTx_isWord_S4 n) v1 o0 = some r) {H : Heap} {locs : List Loc} {ls : Array Slot} (hP : va_P D vwCl (wTx K h0 a0 o0) H) (hD : va_D A (wTx K h0 a0 o0)) (hS : va_S A s.heap H locs) (hl : lv_has ls 4 [(0, .ref h0), (1, .int v1), (2, .ref (K 104))]) : W p l e ({ frames := 4, cells := 0, slots := 0, locals := 85 }) s m AR below meth c H locs 0 0 (MQ below (va_Qi (fun (x : Int32) (_ : Unit) => x = r) (fun (_ : Unit) t => cf_At D A (wTx K h0 a0 o0) t) A) AR s 0 0 A) (F0 m 0 ls []) := by
  obtain ⟨⟨hx, hb, hr, hts, hown, hlocks, hin, hml⟩, hE, hA⟩ := id C
  have hK := hE.k
  refine lv_aload_n hx hb dTx_isWord_0 rfl (lv_at hl 0 rfl) ?_
  refine lv_iload_n hx hb dTx_isWord_1 rfl (lv_at hl 1 rfl) ?_
  obtain ⟨q_1, hq_1, h⟩ := op_b h
  refine dc_calli (va_runV (As := [.int v1]) (rest := []) ⟨hx, hb, hml, hown, hts⟩ (mTx_length l D K _ v1 h0 a0 o0 _ hq_1) (cwV 1 hts (cf_GV wv_752 wv_753 wv_754 wv_158 wv_755) rfl rfl rfl (by decide +kernel) ⟨Nat.le_of_ble_eq_true rfl, Nat.le_of_ble_eq_true rfl⟩) (dc_preV hE hP hD hS hA rfl 0 rfl) rfl rfl hl.1 rfl (lv_room (Nat.le_of_ble_eq_true rfl)) dTx_isWord_2 ⟨Nat.le_of_ble_eq_true rfl, Nat.le_of_ble_eq_true rfl⟩) hP hD hS hA (fun r_2 H locs hw_3 hP hD hS => ?_)
  subst r_2
  refine lv_aload_n hx hb dTx_isWord_5 rfl (lv_at hl 2 rfl) ?_
  obtain ⟨q_4, hq_4, h⟩ := op_b h
  refine cf_calli (wc := []) (wr := wTx K h0 a0 o0) (va_runV (As := []) (rest := [.int q_1]) ⟨hx, hb, hml, hown, hts⟩ (mJString_length__S4 l D K _ _ hq_4) (cwV 0 hts (cf_GV wv_756 wv_757 wv_758 wv_168 wv_759) rfl rfl rfl (by decide +kernel) ⟨Nat.le_of_ble_eq_true rfl, Nat.le_of_ble_eq_true rfl⟩) (cf_preO (wc := []) (hE.s 4 rfl).2.1 hE hP hD hS hA [] rfl (by decide +kernel)) rfl rfl hl.1 rfl (lv_room (Nat.le_of_ble_eq_true rfl)) dTx_isWord_6 ⟨Nat.le_of_ble_eq_true rfl, Nat.le_of_ble_eq_true rfl⟩) hP hD hS hA [] [0, 1, 2, 3] rfl rfl (by decide +kernel) (by decide +kernel) (fun r_5 _ H locs hw_6 hP hD hS => ?_)
  subst r_5
  have hP : va_P D vwCl (wTx K h0 a0 o0) H := hP.sub [0, 1, 2, 3] rfl
  have hD : va_D A (wTx K h0 a0 o0) := hD.sub [0, 1, 2, 3] (by decide +kernel) rfl
  refine lv_icmp_eq (tgt := 14) hx hb dTx_isWord_9 (by decide) (fun c_7 => ?_) (fun c_7 => ?_)
  · have h := op_t c_7 h
    refine lv_iconst (v := 0) hx hb dTx_isWord_14 (by decide) ?_
    refine lv_istore_n (lv' := [(3, .int 0), (0, .ref h0), (1, .int v1), (2, .ref (K 104))]) hx hb dTx_isWord_15 rfl hl (by decide) rfl (fun ls hl => ?_)
    exact (ih) _ _ _ _ h hP hD hS (lv_sub hl [1, 2, 3, 0] rfl)
  · have h := op_f c_7 h
    refine lv_iconst (v := 0) hx hb dTx_isWord_12 (by decide) ?_
    obtain rfl := Option.some.inj h
    exact dc_zret hx hb hr rfl hlocks rfl hP hD hS dTx_isWord_13
theorem iTx_isWord_S4 {p : Program} {l : Launch} {e : Env} {s : State} {m : MethodId} {below : List Frame} {meth : Method} {c : Code} {A : Nat → Prop} {D : va_G} {K : Nat → ClassId} {h0 : Nat} {a0 : Nat → Nat} {AR : Array Value} (C : (dc_C p s m AR meth c cTx_isWord 4 (Option.some Jvm.ClassFile.FieldType.boolean) yTx_isWord ∧ cf_E D K A s s.heap ∧ ∀ q, s.heap.size ≤ q → A q)) : ∀ n, IhTx_isWord_S4 p l e s m below meth c A D K h0 a0 AR n := by
  intro n
  induction n with
  | zero => exact (fun _ _ _ r h => by cases (show none = some r from h))
  | succ n ih => exact fun x0 x1 x2 r h _ _ _ hP hD hS hl => bTx_isWord_S4_16 C ih x0 x1 x2 r h hP hD hS hl
set_option maxRecDepth 100000 in
theorem mTx_isWord_S4 (l : Launch) (D : va_G) (K : Nat → ClassId) (sz : Nat) (v1 : Int32) (h0 : Nat) (a0 : Nat → Nat) (o0 : cf_O) (r : Int32) (h : fTx_isWord_S4 v1 o0 = some r) : Met l yTx_isWord (Cond.code yTx_isWord cTx_isWord 4 (Option.some Jvm.ClassFile.FieldType.boolean) :: cfB) ({ frames := 4, cells := 0, slots := 0, locals := 85 }) (va_Pc [.ref h0, .int v1, .ref (K 104)] (cf_Pre D K sz (wTx K h0 a0 o0))) (va_Qi (fun (x : Int32) (_ : Unit) => x = r) (fun (_ : Unit) t => cf_At D (va_A (wTx K h0 a0 o0) sz) (wTx K h0 a0 o0) t) (va_A (wTx K h0 a0 o0) sz)) 0 0 (va_A (wTx K h0 a0 o0) sz) := by
  refine cf_ofW (y := yTx_isWord) (As := [.ref h0, .int v1, .ref (K 104)]) (WS := wTx K h0 a0 o0) (maxL := 4) (fun A => (va_Qi (fun (x : Int32) (_ : Unit) => x = r) (fun (_ : Unit) t => cf_At D A (wTx K h0 a0 o0) t) A)) (by decide) (Nat.le_of_ble_eq_true rfl) ?_
  intro p e s m below meth c A ls En hsz hA hP hD hE hS hl
  have C : (dc_C p s m (([.ref h0, .int v1, .ref (K 104)] : List Value).toArray) meth c cTx_isWord 4 (Option.some Jvm.ClassFile.FieldType.boolean) yTx_isWord ∧ cf_E D K A s s.heap ∧ ∀ q, s.heap.size ≤ q → A q) := ⟨En, hE, hA⟩
  exact bTx_isWord_S4_0 C (iTx_isWord_S4 C cfFU) v1 o0 r h hP hD hS hl
set_option maxHeartbeats 4000000 in
set_option maxRecDepth 100000 in
theorem bJString_coder__S5_14 {p : Program} {l : Launch} {e : Env} {s : State} {m : MethodId} {below : List Frame} {meth : Method} {c : Code} {A : Nat → Prop} {D : va_G} {K : Nat → ClassId} {AR : Array Value} (C : (dc_C p s m AR meth c cJString_coder_ 1 (Option.some Jvm.ClassFile.FieldType.byte) yJString_coder_ ∧ cf_E D K A s s.heap ∧ ∀ q, s.heap.size ≤ q → A q)) (s0 : Int32) (r : Int32) (h : fJString_coder__S5_14 s0 = some r) {H : Heap} {locs : List Loc} {ls : Array Slot} (hP : va_P D vwCl ([]) H) (hD : va_D A ([])) (hS : va_S A s.heap H locs) (hl : lv_has ls 1 []) : W p l e ({ frames := 0, cells := 0, slots := 0, locals := 0 }) s m AR below meth c H locs 0 0 (MQ below (va_Qi (fun (x : Int32) (_ : Unit) => x = r) (fun (_ : Unit) t => cf_At D A ([]) t) A) AR s 0 0 A) (F0 m 14 ls [.int s0]) := by
  obtain ⟨⟨hx, hb, hr, hts, hown, hlocks, hin, hml⟩, hE, hA⟩ := id C
  have hK := hE.k
  obtain ⟨hz_1, h⟩ := op_w h
  obtain rfl := Option.some.inj h
  exact dc_zretn hx hb hr (op_nb hz_1) hlocks rfl hP hD hS dJString_coder__14
set_option maxHeartbeats 4000000 in
set_option maxRecDepth 100000 in
theorem bJString_coder__S5_0 {p : Program} {l : Launch} {e : Env} {s : State} {m : MethodId} {below : List Frame} {meth : Method} {c : Code} {A : Nat → Prop} {D : va_G} {K : Nat → ClassId} {AR : Array Value} (C : (dc_C p s m AR meth c cJString_coder_ 1 (Option.some Jvm.ClassFile.FieldType.byte) yJString_coder_ ∧ cf_E D K A s s.heap ∧ ∀ q, s.heap.size ≤ q → A q)) (r : Int32) (h : fJString_coder__S5_0 = some r) {H : Heap} {locs : List Loc} {ls : Array Slot} (hP : va_P D vwCl ([]) H) (hD : va_D A ([])) (hS : va_S A s.heap H locs) (hl : lv_has ls 1 [(0, .ref (K 105))]) : W p l e ({ frames := 0, cells := 0, slots := 0, locals := 0 }) s m AR below meth c H locs 0 0 (MQ below (va_Qi (fun (x : Int32) (_ : Unit) => x = r) (fun (_ : Unit) t => cf_At D A ([]) t) A) AR s 0 0 A) (F0 m 0 ls []) := by
  obtain ⟨⟨hx, hb, hr, hts, hown, hlocks, hin, hml⟩, hE, hA⟩ := id C
  have hK := hE.k
  refine va_gets hx hb hE.2.2.2.2.2.2.1 hS hown (hts _ wv_764) (fun _ h9 => h9) dJString_coder__0 ?_
  refine lv_if_eq (tgt := 13) hx hb dJString_coder__3 (by decide) (fun c_1 => absurd c_1 (by decide)) (fun _ => ?_)
  refine lv_aload_n hx hb dJString_coder__6 rfl (lv_at hl 0 rfl) ?_
  refine vk_getf hx hb (hE.s 5 rfl).2.2.1 hS hown (hts _ wv_1736) (fun _ h9 => h9) dJString_coder__7 ?_
  refine lv_goto (tgt := 14) hx hb dJString_coder__10 (by decide) ?_
  exact bJString_coder__S5_14 C _ _ h hP hD hS (lv_sub hl [] rfl)
set_option maxRecDepth 100000 in
theorem mJString_coder__S5 (l : Launch) (D : va_G) (K : Nat → ClassId) (sz : Nat) (r : Int32) (h : fJString_coder__S5 = some r) : Met l yJString_coder_ (Cond.code yJString_coder_ cJString_coder_ 1 (Option.some Jvm.ClassFile.FieldType.byte) :: cfB) ({ frames := 0, cells := 0, slots := 0, locals := 0 }) (va_Pc [.ref (K 105)] (cf_Pre D K sz ([]))) (va_Qi (fun (x : Int32) (_ : Unit) => x = r) (fun (_ : Unit) t => cf_At D (va_A ([]) sz) ([]) t) (va_A ([]) sz)) 0 0 (va_A ([]) sz) := by
  refine cf_ofW (y := yJString_coder_) (As := [.ref (K 105)]) (WS := []) (maxL := 1) (fun A => (va_Qi (fun (x : Int32) (_ : Unit) => x = r) (fun (_ : Unit) t => cf_At D A ([]) t) A)) (by decide) (Nat.le_of_ble_eq_true rfl) ?_
  intro p e s m below meth c A ls En hsz hA hP hD hE hS hl
  have C : (dc_C p s m (([.ref (K 105)] : List Value).toArray) meth c cJString_coder_ 1 (Option.some Jvm.ClassFile.FieldType.byte) yJString_coder_ ∧ cf_E D K A s s.heap ∧ ∀ q, s.heap.size ≤ q → A q) := ⟨En, hE, hA⟩
  exact bJString_coder__S5_0 C r h hP hD hS hl
set_option maxHeartbeats 4000000 in
set_option maxRecDepth 100000 in
theorem bJString_length__S5_0 {p : Program} {l : Launch} {e : Env} {s : State} {m : MethodId} {below : List Frame} {meth : Method} {c : Code} {A : Nat → Prop} {D : va_G} {K : Nat → ClassId} {AR : Array Value} (C : (dc_C p s m AR meth c cJString_length_ 1 (Option.some Jvm.ClassFile.FieldType.int) yJString_length_ ∧ cf_E D K A s s.heap ∧ ∀ q, s.heap.size ≤ q → A q)) (r : Int32) (h : fJString_length__S5_0 = some r) {H : Heap} {locs : List Loc} {ls : Array Slot} (hP : va_P D vwCl ([]) H) (hD : va_D A ([])) (hS : va_S A s.heap H locs) (hl : lv_has ls 1 [(0, .ref (K 105))]) : W p l e ({ frames := 1, cells := 0, slots := 0, locals := 20 }) s m AR below meth c H locs 0 0 (MQ below (va_Qi (fun (x : Int32) (_ : Unit) => x = r) (fun (_ : Unit) t => cf_At D A ([]) t) A) AR s 0 0 A) (F0 m 0 ls []) := by
  obtain ⟨⟨hx, hb, hr, hts, hown, hlocks, hin, hml⟩, hE, hA⟩ := id C
  have hK := hE.k
  refine lv_aload_n hx hb dJString_length__0 rfl (lv_at hl 0 rfl) ?_
  refine vk_getf hx hb (hE.s 5 rfl).2.2.2.1 hS hown (hts _ wv_1735) (fun _ h9 => h9) dJString_length__1 ?_
  refine va_tlen (v := 6) hx hb (hE.s 5 rfl).2.2.2.2 hS rfl dJString_length__4 ?_
  refine lv_aload_n hx hb dJString_length__5 rfl (lv_at hl 0 rfl) ?_
  obtain ⟨q_1, hq_1, h⟩ := op_b h
  refine cf_calli (wc := []) (wr := []) (va_runV (As := []) (rest := [.int 6]) ⟨hx, hb, hml, hown, hts⟩ (mJString_coder__S5 l D K _ _ hq_1) (cwV 0 hts (cf_GV wv_760 wv_761 wv_762 wv_168 wv_763) rfl rfl rfl (by decide +kernel) ⟨Nat.le_of_ble_eq_true rfl, Nat.le_of_ble_eq_true rfl⟩) (cf_preO (wc := []) (hE.s 5 rfl).2.1 hE hP hD hS hA [] rfl (by decide +kernel)) rfl rfl hl.1 rfl (lv_room (Nat.le_of_ble_eq_true rfl)) dJString_length__6 ⟨Nat.le_of_ble_eq_true rfl, Nat.le_of_ble_eq_true rfl⟩) hP hD hS hA [] [] rfl rfl (by decide +kernel) (by decide +kernel) (fun r_2 _ H locs hw_3 hP hD hS => ?_)
  subst r_2
  have hP : va_P D vwCl ([]) H := hP.sub [] rfl
  have hD : va_D A ([]) := hD.sub [] (by decide +kernel) rfl
  refine lv_ishr hx hb dJString_length__9 ?_
  refine lv_topi (fun x_4 ex_4 => ?_)
  have h := op_ks ex_4 h
  obtain rfl := Option.some.inj h
  exact dc_iret hx hb hr hlocks rfl hP hD hS dJString_length__10
set_option maxRecDepth 100000 in
theorem mJString_length__S5 (l : Launch) (D : va_G) (K : Nat → ClassId) (sz : Nat) (r : Int32) (h : fJString_length__S5 = some r) : Met l yJString_length_ (Cond.code yJString_length_ cJString_length_ 1 (Option.some Jvm.ClassFile.FieldType.int) :: cfB) ({ frames := 1, cells := 0, slots := 0, locals := 20 }) (va_Pc [.ref (K 105)] (cf_Pre D K sz ([]))) (va_Qi (fun (x : Int32) (_ : Unit) => x = r) (fun (_ : Unit) t => cf_At D (va_A ([]) sz) ([]) t) (va_A ([]) sz)) 0 0 (va_A ([]) sz) := by
  refine cf_ofW (y := yJString_length_) (As := [.ref (K 105)]) (WS := []) (maxL := 1) (fun A => (va_Qi (fun (x : Int32) (_ : Unit) => x = r) (fun (_ : Unit) t => cf_At D A ([]) t) A)) (by decide) (Nat.le_of_ble_eq_true rfl) ?_
  intro p e s m below meth c A ls En hsz hA hP hD hE hS hl
  have C : (dc_C p s m (([.ref (K 105)] : List Value).toArray) meth c cJString_length_ 1 (Option.some Jvm.ClassFile.FieldType.int) yJString_length_ ∧ cf_E D K A s s.heap ∧ ∀ q, s.heap.size ≤ q → A q) := ⟨En, hE, hA⟩
  exact bJString_length__S5_0 C r h hP hD hS hl
set_option maxHeartbeats 4000000 in
set_option maxRecDepth 100000 in
theorem bJString_isLatin1__S5_18 {p : Program} {l : Launch} {e : Env} {s : State} {m : MethodId} {below : List Frame} {meth : Method} {c : Code} {A : Nat → Prop} {D : va_G} {K : Nat → ClassId} {AR : Array Value} (C : (dc_C p s m AR meth c cJString_isLatin1_ 1 (Option.some Jvm.ClassFile.FieldType.boolean) yJString_isLatin1_ ∧ cf_E D K A s s.heap ∧ ∀ q, s.heap.size ≤ q → A q)) (s0 : Int32) (r : Int32) (h : fJString_isLatin1__S5_18 s0 = some r) {H : Heap} {locs : List Loc} {ls : Array Slot} (hP : va_P D vwCl ([]) H) (hD : va_D A ([])) (hS : va_S A s.heap H locs) (hl : lv_has ls 1 []) : W p l e ({ frames := 0, cells := 0, slots := 0, locals := 0 }) s m AR below meth c H locs 0 0 (MQ below (va_Qi (fun (x : Int32) (_ : Unit) => x = r) (fun (_ : Unit) t => cf_At D A ([]) t) A) AR s 0 0 A) (F0 m 18 ls [.int s0]) := by
  obtain ⟨⟨hx, hb, hr, hts, hown, hlocks, hin, hml⟩, hE, hA⟩ := id C
  have hK := hE.k
  obtain ⟨hz_1, h⟩ := op_w h
  obtain rfl := Option.some.inj h
  exact dc_zret hx hb hr (op_z hz_1) hlocks rfl hP hD hS dJString_isLatin1__18
set_option maxHeartbeats 4000000 in
set_option maxRecDepth 100000 in
theorem bJString_isLatin1__S5_17 {p : Program} {l : Launch} {e : Env} {s : State} {m : MethodId} {below : List Frame} {meth : Method} {c : Code} {A : Nat → Prop} {D : va_G} {K : Nat → ClassId} {AR : Array Value} (C : (dc_C p s m AR meth c cJString_isLatin1_ 1 (Option.some Jvm.ClassFile.FieldType.boolean) yJString_isLatin1_ ∧ cf_E D K A s s.heap ∧ ∀ q, s.heap.size ≤ q → A q)) (r : Int32) (h : fJString_isLatin1__S5_17 = some r) {H : Heap} {locs : List Loc} {ls : Array Slot} (hP : va_P D vwCl ([]) H) (hD : va_D A ([])) (hS : va_S A s.heap H locs) (hl : lv_has ls 1 []) : W p l e ({ frames := 0, cells := 0, slots := 0, locals := 0 }) s m AR below meth c H locs 0 0 (MQ below (va_Qi (fun (x : Int32) (_ : Unit) => x = r) (fun (_ : Unit) t => cf_At D A ([]) t) A) AR s 0 0 A) (F0 m 17 ls []) := by
  obtain ⟨⟨hx, hb, hr, hts, hown, hlocks, hin, hml⟩, hE, hA⟩ := id C
  have hK := hE.k
  refine lv_iconst (v := 0) hx hb dJString_isLatin1__17 (by decide) ?_
  exact bJString_isLatin1__S5_18 C _ _ h hP hD hS (lv_sub hl [] rfl)
set_option maxHeartbeats 4000000 in
set_option maxRecDepth 100000 in
theorem bJString_isLatin1__S5_0 {p : Program} {l : Launch} {e : Env} {s : State} {m : MethodId} {below : List Frame} {meth : Method} {c : Code} {A : Nat → Prop} {D : va_G} {K : Nat → ClassId} {AR : Array Value} (C : (dc_C p s m AR meth c cJString_isLatin1_ 1 (Option.some Jvm.ClassFile.FieldType.boolean) yJString_isLatin1_ ∧ cf_E D K A s s.heap ∧ ∀ q, s.heap.size ≤ q → A q)) (r : Int32) (h : fJString_isLatin1__S5_0 = some r) {H : Heap} {locs : List Loc} {ls : Array Slot} (hP : va_P D vwCl ([]) H) (hD : va_D A ([])) (hS : va_S A s.heap H locs) (hl : lv_has ls 1 [(0, .ref (K 105))]) : W p l e ({ frames := 0, cells := 0, slots := 0, locals := 0 }) s m AR below meth c H locs 0 0 (MQ below (va_Qi (fun (x : Int32) (_ : Unit) => x = r) (fun (_ : Unit) t => cf_At D A ([]) t) A) AR s 0 0 A) (F0 m 0 ls []) := by
  obtain ⟨⟨hx, hb, hr, hts, hown, hlocks, hin, hml⟩, hE, hA⟩ := id C
  have hK := hE.k
  refine va_gets hx hb hE.2.2.2.2.2.2.1 hS hown (hts _ wv_764) (fun _ h9 => h9) dJString_isLatin1__0 ?_
  refine lv_if_eq (tgt := 17) hx hb dJString_isLatin1__3 (by decide) (fun c_1 => absurd c_1 (by decide)) (fun _ => ?_)
  refine lv_aload_n hx hb dJString_isLatin1__6 rfl (lv_at hl 0 rfl) ?_
  refine vk_getf hx hb (hE.s 5 rfl).2.2.1 hS hown (hts _ wv_1736) (fun _ h9 => h9) dJString_isLatin1__7 ?_
  refine lv_if_ne (tgt := 17) hx hb dJString_isLatin1__10 (by decide) (fun c_2 => absurd (by decide) c_2) (fun _ => ?_)
  refine lv_iconst (v := 1) hx hb dJString_isLatin1__13 (by decide) ?_
  refine lv_goto (tgt := 18) hx hb dJString_isLatin1__14 (by decide) ?_
  exact bJString_isLatin1__S5_18 C _ _ h hP hD hS (lv_sub hl [] rfl)
set_option maxRecDepth 100000 in
theorem mJString_isLatin1__S5 (l : Launch) (D : va_G) (K : Nat → ClassId) (sz : Nat) (r : Int32) (h : fJString_isLatin1__S5 = some r) : Met l yJString_isLatin1_ (Cond.code yJString_isLatin1_ cJString_isLatin1_ 1 (Option.some Jvm.ClassFile.FieldType.boolean) :: cfB) ({ frames := 0, cells := 0, slots := 0, locals := 0 }) (va_Pc [.ref (K 105)] (cf_Pre D K sz ([]))) (va_Qi (fun (x : Int32) (_ : Unit) => x = r) (fun (_ : Unit) t => cf_At D (va_A ([]) sz) ([]) t) (va_A ([]) sz)) 0 0 (va_A ([]) sz) := by
  refine cf_ofW (y := yJString_isLatin1_) (As := [.ref (K 105)]) (WS := []) (maxL := 1) (fun A => (va_Qi (fun (x : Int32) (_ : Unit) => x = r) (fun (_ : Unit) t => cf_At D A ([]) t) A)) (by decide) (Nat.le_of_ble_eq_true rfl) ?_
  intro p e s m below meth c A ls En hsz hA hP hD hE hS hl
  have C : (dc_C p s m (([.ref (K 105)] : List Value).toArray) meth c cJString_isLatin1_ 1 (Option.some Jvm.ClassFile.FieldType.boolean) yJString_isLatin1_ ∧ cf_E D K A s s.heap ∧ ∀ q, s.heap.size ≤ q → A q) := ⟨En, hE, hA⟩
  exact bJString_isLatin1__S5_0 C r h hP hD hS hl
set_option maxHeartbeats 4000000 in
set_option maxRecDepth 100000 in
theorem bJStringLatin1_charAt_ABI_B5_0 {p : Program} {l : Launch} {e : Env} {s : State} {m : MethodId} {below : List Frame} {meth : Method} {c : Code} {A : Nat → Prop} {D : va_G} {K : Nat → ClassId} {AR : Array Value} (C : (dc_C p s m AR meth c cJStringLatin1_charAt_ABI 2 (Option.some Jvm.ClassFile.FieldType.char) yJStringLatin1_charAt_ABI ∧ cf_E D K A s s.heap ∧ ∀ q, s.heap.size ≤ q → A q)) (v1 : Int32) (r : Int32) (h : fJStringLatin1_charAt_ABI_B5_0 v1 = some r) {H : Heap} {locs : List Loc} {ls : Array Slot} (hP : va_P D vwCl ([]) H) (hD : va_D A ([])) (hS : va_S A s.heap H locs) (hl : lv_has ls 2 [(0, .ref (K 205)), (1, .int v1)]) : W p l e ({ frames := 2, cells := 0, slots := 0, locals := 43 }) s m AR below meth c H locs 0 0 (MQ below (va_Qi (fun (x : Int32) (_ : Unit) => x = r) (fun (_ : Unit) t => cf_At D A ([]) t) A) AR s 0 0 A) (F0 m 0 ls []) := by
  obtain ⟨⟨hx, hb, hr, hts, hown, hlocks, hin, hml⟩, hE, hA⟩ := id C
  have hK := hE.k
  refine lv_iload_n hx hb dJStringLatin1_charAt_ABI_0 rfl (lv_at hl 1 rfl) ?_
  refine lv_aload_n hx hb dJStringLatin1_charAt_ABI_1 rfl (lv_at hl 0 rfl) ?_
  refine va_tlen (v := 6) hx hb (hE.s 5 rfl).2.2.2.2 hS rfl dJStringLatin1_charAt_ABI_2 ?_
  obtain ⟨q_1, hq_1, h⟩ := op_b h
  refine dc_callv (va_runS (As := [.int v1, .int 6]) (rest := []) ⟨hx, hb, hml, hown, hts⟩ (mJString_checkIndex_II l D K _ v1 6 _ hq_1) (va_cwS 2 hts (cf_GS wv_780 wv_781 wv_168 wv_782) rfl rfl rfl (by decide +kernel) ⟨Nat.le_of_ble_eq_true rfl, Nat.le_of_ble_eq_true rfl⟩) (dc_preS hE hP hD hS hA) rfl rfl hl.1 rfl (lv_room (Nat.le_of_ble_eq_true rfl)) dJStringLatin1_charAt_ABI_3 ⟨Nat.le_of_ble_eq_true rfl, Nat.le_of_ble_eq_true rfl⟩) hP hD hS hA (fun H locs hP hD hS => ?_)
  refine lv_aload_n hx hb dJStringLatin1_charAt_ABI_6 rfl (lv_at hl 0 rfl) ?_
  refine lv_iload_n hx hb dJStringLatin1_charAt_ABI_7 rfl (lv_at hl 1 rfl) ?_
  obtain ⟨hi_3, h⟩ := op_n h
  refine va_tb hx hb (hE.s 5 rfl).2.2.2.2 hS (i := v1) hi_3 (v := .int (cf_sb 5 v1.toNatClampNeg)) rfl dJStringLatin1_charAt_ABI_8 ?_
  refine lv_topi (fun x_4 ex_4 => ?_)
  have h := op_ks ex_4 h
  refine lv_sipush (v := 255) hx hb dJStringLatin1_charAt_ABI_9 (by decide) ?_
  refine lv_iand hx hb dJStringLatin1_charAt_ABI_12 ?_
  refine lv_topi (fun x_5 ex_5 => ?_)
  have h := op_ks ex_5 h
  refine lv_i2c hx hb dJStringLatin1_charAt_ABI_13 rfl ?_
  refine lv_topi (fun x_6 ex_6 => ?_)
  have h := op_ks ex_6 h
  obtain ⟨hz_7, h⟩ := op_w h
  obtain rfl := Option.some.inj h
  exact dc_zretn hx hb hr (op_nc hz_7) hlocks rfl hP hD hS dJStringLatin1_charAt_ABI_14
set_option maxRecDepth 100000 in
theorem mJStringLatin1_charAt_ABI_B5 (l : Launch) (D : va_G) (K : Nat → ClassId) (sz : Nat) (v1 : Int32) (r : Int32) (h : fJStringLatin1_charAt_ABI_B5 v1 = some r) : Met l yJStringLatin1_charAt_ABI (Cond.code yJStringLatin1_charAt_ABI cJStringLatin1_charAt_ABI 2 (Option.some Jvm.ClassFile.FieldType.char) :: cfB) ({ frames := 2, cells := 0, slots := 0, locals := 43 }) (va_Pc [.ref (K 205), .int v1] (cf_Pre D K sz ([]))) (va_Qi (fun (x : Int32) (_ : Unit) => x = r) (fun (_ : Unit) t => cf_At D (va_A ([]) sz) ([]) t) (va_A ([]) sz)) 0 0 (va_A ([]) sz) := by
  refine cf_ofW (y := yJStringLatin1_charAt_ABI) (As := [.ref (K 205), .int v1]) (WS := []) (maxL := 2) (fun A => (va_Qi (fun (x : Int32) (_ : Unit) => x = r) (fun (_ : Unit) t => cf_At D A ([]) t) A)) (by decide) (Nat.le_of_ble_eq_true rfl) ?_
  intro p e s m below meth c A ls En hsz hA hP hD hE hS hl
  have C : (dc_C p s m (([.ref (K 205), .int v1] : List Value).toArray) meth c cJStringLatin1_charAt_ABI 2 (Option.some Jvm.ClassFile.FieldType.char) yJStringLatin1_charAt_ABI ∧ cf_E D K A s s.heap ∧ ∀ q, s.heap.size ≤ q → A q) := ⟨En, hE, hA⟩
  exact bJStringLatin1_charAt_ABI_B5_0 C v1 r h hP hD hS hl
set_option maxHeartbeats 4000000 in
set_option maxRecDepth 100000 in
theorem bJString_charAt_I_S5_0 {p : Program} {l : Launch} {e : Env} {s : State} {m : MethodId} {below : List Frame} {meth : Method} {c : Code} {A : Nat → Prop} {D : va_G} {K : Nat → ClassId} {AR : Array Value} (C : (dc_C p s m AR meth c cJString_charAt_I 2 (Option.some Jvm.ClassFile.FieldType.char) yJString_charAt_I ∧ cf_E D K A s s.heap ∧ ∀ q, s.heap.size ≤ q → A q)) (v1 : Int32) (r : Int32) (h : fJString_charAt_I_S5_0 v1 = some r) {H : Heap} {locs : List Loc} {ls : Array Slot} (hP : va_P D vwCl ([]) H) (hD : va_D A ([])) (hS : va_S A s.heap H locs) (hl : lv_has ls 2 [(0, .ref (K 105)), (1, .int v1)]) : W p l e ({ frames := 3, cells := 0, slots := 0, locals := 64 }) s m AR below meth c H locs 0 0 (MQ below (va_Qi (fun (x : Int32) (_ : Unit) => x = r) (fun (_ : Unit) t => cf_At D A ([]) t) A) AR s 0 0 A) (F0 m 0 ls []) := by
  obtain ⟨⟨hx, hb, hr, hts, hown, hlocks, hin, hml⟩, hE, hA⟩ := id C
  have hK := hE.k
  refine lv_aload_n hx hb dJString_charAt_I_0 rfl (lv_at hl 0 rfl) ?_
  obtain ⟨q_1, hq_1, h⟩ := op_b h
  refine cf_calli (wc := []) (wr := []) (va_runV (As := []) (rest := []) ⟨hx, hb, hml, hown, hts⟩ (mJString_isLatin1__S5 l D K _ _ hq_1) (cwV 0 hts (cf_GV wv_773 wv_774 wv_775 wv_168 wv_776) rfl rfl rfl (by decide +kernel) ⟨Nat.le_of_ble_eq_true rfl, Nat.le_of_ble_eq_true rfl⟩) (cf_preO (wc := []) (hE.s 5 rfl).2.1 hE hP hD hS hA [] rfl (by decide +kernel)) rfl rfl hl.1 rfl (lv_room (Nat.le_of_ble_eq_true rfl)) dJString_charAt_I_1 ⟨Nat.le_of_ble_eq_true rfl, Nat.le_of_ble_eq_true rfl⟩) hP hD hS hA [] [] rfl rfl (by decide +kernel) (by decide +kernel) (fun r_2 _ H locs hw_3 hP hD hS => ?_)
  subst r_2
  have hP : va_P D vwCl ([]) H := hP.sub [] rfl
  have hD : va_D A ([]) := hD.sub [] (by decide +kernel) rfl
  refine lv_if_eq (tgt := 16) hx hb dJString_charAt_I_4 (by decide) (fun c_4 => ?_) (fun c_4 => ?_)
  · have h := op_t c_4 h
    refine lv_aload_n hx hb dJString_charAt_I_16 rfl (lv_at hl 0 rfl) ?_
    refine vk_getf hx hb (hE.s 5 rfl).2.2.2.1 hS hown (hts _ wv_1735) (fun _ h9 => h9) dJString_charAt_I_17 ?_
    refine lv_iload_n hx hb dJString_charAt_I_20 rfl (lv_at hl 1 rfl) ?_
    cases h
  · have h := op_f c_4 h
    refine lv_aload_n hx hb dJString_charAt_I_7 rfl (lv_at hl 0 rfl) ?_
    refine vk_getf hx hb (hE.s 5 rfl).2.2.2.1 hS hown (hts _ wv_1735) (fun _ h9 => h9) dJString_charAt_I_8 ?_
    refine lv_iload_n hx hb dJString_charAt_I_11 rfl (lv_at hl 1 rfl) ?_
    obtain ⟨q_5, hq_5, h⟩ := op_b h
    refine dc_calli (va_runS (As := [.ref (K 205), .int v1]) (rest := []) ⟨hx, hb, hml, hown, hts⟩ (mJStringLatin1_charAt_ABI_B5 l D K _ v1 _ hq_5) (va_cwS 2 hts (cf_GS wv_777 wv_778 wv_179 wv_779) rfl rfl rfl (by decide +kernel) ⟨Nat.le_of_ble_eq_true rfl, Nat.le_of_ble_eq_true rfl⟩) (dc_preS hE hP hD hS hA) rfl rfl hl.1 rfl (lv_room (Nat.le_of_ble_eq_true rfl)) dJString_charAt_I_12 ⟨Nat.le_of_ble_eq_true rfl, Nat.le_of_ble_eq_true rfl⟩) hP hD hS hA (fun r_6 H locs hw_7 hP hD hS => ?_)
    subst r_6
    obtain ⟨hz_8, h⟩ := op_w h
    obtain rfl := Option.some.inj h
    exact dc_zretn hx hb hr (op_nc hz_8) hlocks rfl hP hD hS dJString_charAt_I_15
set_option maxRecDepth 100000 in
theorem mJString_charAt_I_S5 (l : Launch) (D : va_G) (K : Nat → ClassId) (sz : Nat) (v1 : Int32) (r : Int32) (h : fJString_charAt_I_S5 v1 = some r) : Met l yJString_charAt_I (Cond.code yJString_charAt_I cJString_charAt_I 2 (Option.some Jvm.ClassFile.FieldType.char) :: cfB) ({ frames := 3, cells := 0, slots := 0, locals := 64 }) (va_Pc [.ref (K 105), .int v1] (cf_Pre D K sz ([]))) (va_Qi (fun (x : Int32) (_ : Unit) => x = r) (fun (_ : Unit) t => cf_At D (va_A ([]) sz) ([]) t) (va_A ([]) sz)) 0 0 (va_A ([]) sz) := by
  refine cf_ofW (y := yJString_charAt_I) (As := [.ref (K 105), .int v1]) (WS := []) (maxL := 2) (fun A => (va_Qi (fun (x : Int32) (_ : Unit) => x = r) (fun (_ : Unit) t => cf_At D A ([]) t) A)) (by decide) (Nat.le_of_ble_eq_true rfl) ?_
  intro p e s m below meth c A ls En hsz hA hP hD hE hS hl
  have C : (dc_C p s m (([.ref (K 105), .int v1] : List Value).toArray) meth c cJString_charAt_I 2 (Option.some Jvm.ClassFile.FieldType.char) yJString_charAt_I ∧ cf_E D K A s s.heap ∧ ∀ q, s.heap.size ≤ q → A q) := ⟨En, hE, hA⟩
  exact bJString_charAt_I_S5_0 C v1 r h hP hD hS hl
def IhTx_isWord_S5 (p : Program) (l : Launch) (e : Env) (s : State) (m : MethodId) (below : List Frame) (meth : Method) (c : Code) (A : Nat → Prop) (D : va_G) (K : Nat → ClassId) (h0 : Nat) (a0 : Nat → Nat) (AR : Array Value) (n : Nat) : Prop := (∀ (v1 : Int32) (v3 : Int32) (o0 : cf_O) (r : Int32), gTx_isWord_S5 n 0 v1 v3 o0 = some r → ∀ {H : Heap} {locs : List Loc} {ls : Array Slot}, (va_P D vwCl (wTx K h0 a0 o0) H) → (va_D A (wTx K h0 a0 o0)) → va_S A s.heap H locs → lv_has ls 4 [(0, .ref h0), (1, .int v1), (2, .ref (K 105)), (3, .int v3)] → W p l e ({ frames := 4, cells := 0, slots := 0, locals := 85 }) s m AR below meth c H locs 0 0 (MQ below (va_Qi (fun (x : Int32) (_ : Unit) => x = r) (fun (_ : Unit) t => cf_At D A (wTx K h0 a0 o0) t) A) AR s 0 0 A) (F0 m 16 ls []))
set_option maxHeartbeats 4000000 in
set_option maxRecDepth 100000 in
theorem bTx_isWord_S5_16 {p : Program} {l : Launch} {e : Env} {s : State} {m : MethodId} {below : List Frame} {meth : Method} {c : Code} {A : Nat → Prop} {D : va_G} {K : Nat → ClassId} {h0 : Nat} {a0 : Nat → Nat} {AR : Array Value} (C : (dc_C p s m AR meth c cTx_isWord 4 (Option.some Jvm.ClassFile.FieldType.boolean) yTx_isWord ∧ cf_E D K A s s.heap ∧ ∀ q, s.heap.size ≤ q → A q)) {n : Nat} (ih : IhTx_isWord_S5 p l e s m below meth c A D K h0 a0 AR n) (v1 : Int32) (v3 : Int32) (o0 : cf_O) (r : Int32) (h : fTx_isWord_S5_16 (gTx_isWord_S5 n) v1 v3 o0 = some r) {H : Heap} {locs : List Loc} {ls : Array Slot} (hP : va_P D vwCl (wTx K h0 a0 o0) H) (hD : va_D A (wTx K h0 a0 o0)) (hS : va_S A s.heap H locs) (hl : lv_has ls 4 [(0, .ref h0), (1, .int v1), (2, .ref (K 105)), (3, .int v3)]) : W p l e ({ frames := 4, cells := 0, slots := 0, locals := 85 }) s m AR below meth c H locs 0 0 (MQ below (va_Qi (fun (x : Int32) (_ : Unit) => x = r) (fun (_ : Unit) t => cf_At D A (wTx K h0 a0 o0) t) A) AR s 0 0 A) (F0 m 16 ls []) := by
  obtain ⟨⟨hx, hb, hr, hts, hown, hlocks, hin, hml⟩, hE, hA⟩ := id C
  have hK := hE.k
  refine lv_iload_n hx hb dTx_isWord_16 rfl (lv_at hl 3 rfl) ?_
  refine lv_aload_n hx hb dTx_isWord_17 rfl (lv_at hl 2 rfl) ?_
  obtain ⟨q_1, hq_1, h⟩ := op_b h
  refine cf_calli (wc := []) (wr := wTx K h0 a0 o0) (va_runV (As := []) (rest := [.int v3]) ⟨hx, hb, hml, hown, hts⟩ (mJString_length__S5 l D K _ _ hq_1) (cwV 0 hts (cf_GV wv_756 wv_757 wv_758 wv_168 wv_759) rfl rfl rfl (by decide +kernel) ⟨Nat.le_of_ble_eq_true rfl, Nat.le_of_ble_eq_true rfl⟩) (cf_preO (wc := []) (hE.s 5 rfl).2.1 hE hP hD hS hA [] rfl (by decide +kernel)) rfl rfl hl.1 rfl (lv_room (Nat.le_of_ble_eq_true rfl)) dTx_isWord_18 ⟨Nat.le_of_ble_eq_true rfl, Nat.le_of_ble_eq_true rfl⟩) hP hD hS hA [] [0, 1, 2, 3] rfl rfl (by decide +kernel) (by decide +kernel) (fun r_2 _ H locs hw_3 hP hD hS => ?_)
  subst r_2
  have hP : va_P D vwCl (wTx K h0 a0 o0) H := hP.sub [0, 1, 2, 3] rfl
  have hD : va_D A (wTx K h0 a0 o0) := hD.sub [0, 1, 2, 3] (by decide +kernel) rfl
  refine lv_icmp_ge (tgt := 46) hx hb dTx_isWord_21 (by decide) (fun c_4 => ?_) (fun c_4 => ?_)
  · have h := op_t c_4 h
    refine lv_iconst (v := 1) hx hb dTx_isWord_46 (by decide) ?_
    obtain rfl := Option.some.inj h
    exact dc_zret hx hb hr rfl hlocks rfl hP hD hS dTx_isWord_47
  · have h := op_f c_4 h
    refine lv_aload_n hx hb dTx_isWord_24 rfl (lv_at hl 0 rfl) ?_
    refine lv_iload_n hx hb dTx_isWord_25 rfl (lv_at hl 1 rfl) ?_
    refine lv_iload_n hx hb dTx_isWord_26 rfl (lv_at hl 3 rfl) ?_
    obtain ⟨q_5, hq_5, h⟩ := op_b h
    refine dc_calli (va_runV (As := [.int v1, .int v3]) (rest := []) ⟨hx, hb, hml, hown, hts⟩ (mTx_signOf l D K _ v1 v3 h0 a0 o0 _ hq_5) (cwV 2 hts (cf_GV wv_765 wv_766 wv_767 wv_158 wv_768) rfl rfl rfl (by decide +kernel) ⟨Nat.le_of_ble_eq_true rfl, Nat.le_of_ble_eq_true rfl⟩) (dc_preV hE hP hD hS hA rfl 0 rfl) rfl rfl hl.1 rfl (lv_room (Nat.le_of_ble_eq_true rfl)) dTx_isWord_27 ⟨Nat.le_of_ble_eq_true rfl, Nat.le_of_ble_eq_true rfl⟩) hP hD hS hA (fun r_6 H locs hw_7 hP hD hS => ?_)
    subst r_6
    refine lv_aload_n hx hb dTx_isWord_30 rfl (lv_at hl 2 rfl) ?_
    refine lv_iload_n hx hb dTx_isWord_31 rfl (lv_at hl 3 rfl) ?_
    obtain ⟨q_8, hq_8, h⟩ := op_b h
    refine cf_calli (wc := []) (wr := wTx K h0 a0 o0) (va_runV (As := [.int v3]) (rest := [.int q_5]) ⟨hx, hb, hml, hown, hts⟩ (mJString_charAt_I_S5 l D K _ v3 _ hq_8) (cwV 1 hts (cf_GV wv_769 wv_770 wv_771 wv_168 wv_772) rfl rfl rfl (by decide +kernel) ⟨Nat.le_of_ble_eq_true rfl, Nat.le_of_ble_eq_true rfl⟩) (cf_preO (wc := []) (hE.s 5 rfl).2.1 hE hP hD hS hA [] rfl (by decide +kernel)) rfl rfl hl.1 rfl (lv_room (Nat.le_of_ble_eq_true rfl)) dTx_isWord_32 ⟨Nat.le_of_ble_eq_true rfl, Nat.le_of_ble_eq_true rfl⟩) hP hD hS hA [] [0, 1, 2, 3] rfl rfl (by decide +kernel) (by decide +kernel) (fun r_9 _ H locs hw_10 hP hD hS => ?_)
    subst r_9
    have hP : va_P D vwCl (wTx K h0 a0 o0) H := hP.sub [0, 1, 2, 3] rfl
    have hD : va_D A (wTx K h0 a0 o0) := hD.sub [0, 1, 2, 3] (by decide +kernel) rfl
    refine lv_icmp_eq (tgt := 40) hx hb dTx_isWord_35 (by decide) (fun c_11 => ?_) (fun c_11 => ?_)
    · have h := op_t c_11 h
      obtain ⟨x_12, ex_12⟩ : ∃ y : Int32, y = v3 + 1 := ⟨_, rfl⟩
      refine lv_iinc (v := x_12) (lv' := [(3, .int x_12), (0, .ref h0), (1, .int v1), (2, .ref (K 105))]) hx hb dTx_isWord_40 hl (k := 3) rfl (by rw [ex_12]; rfl) (by decide) rfl (fun ls hl => ?_)
      have h := op_ks ex_12 h
      refine lv_goto (tgt := 16) hx hb dTx_isWord_43 (by decide) ?_
      exact (ih) _ _ _ _ h hP hD hS (lv_sub hl [1, 2, 3, 0] rfl)
    · have h := op_f c_11 h
      refine lv_iconst (v := 0) hx hb dTx_isWord_38 (by decide) ?_
      obtain rfl := Option.some.inj h
      exact dc_zret hx hb hr rfl hlocks rfl hP hD hS dTx_isWord_39
set_option maxHeartbeats 4000000 in
set_option maxRecDepth 100000 in
theorem bTx_isWord_S5_0 {p : Program} {l : Launch} {e : Env} {s : State} {m : MethodId} {below : List Frame} {meth : Method} {c : Code} {A : Nat → Prop} {D : va_G} {K : Nat → ClassId} {h0 : Nat} {a0 : Nat → Nat} {AR : Array Value} (C : (dc_C p s m AR meth c cTx_isWord 4 (Option.some Jvm.ClassFile.FieldType.boolean) yTx_isWord ∧ cf_E D K A s s.heap ∧ ∀ q, s.heap.size ≤ q → A q)) {n : Nat} (ih : IhTx_isWord_S5 p l e s m below meth c A D K h0 a0 AR n) (v1 : Int32) (o0 : cf_O) (r : Int32) (h : fTx_isWord_S5_0 (gTx_isWord_S5 n) v1 o0 = some r) {H : Heap} {locs : List Loc} {ls : Array Slot} (hP : va_P D vwCl (wTx K h0 a0 o0) H) (hD : va_D A (wTx K h0 a0 o0)) (hS : va_S A s.heap H locs) (hl : lv_has ls 4 [(0, .ref h0), (1, .int v1), (2, .ref (K 105))]) : W p l e ({ frames := 4, cells := 0, slots := 0, locals := 85 }) s m AR below meth c H locs 0 0 (MQ below (va_Qi (fun (x : Int32) (_ : Unit) => x = r) (fun (_ : Unit) t => cf_At D A (wTx K h0 a0 o0) t) A) AR s 0 0 A) (F0 m 0 ls []) := by
  obtain ⟨⟨hx, hb, hr, hts, hown, hlocks, hin, hml⟩, hE, hA⟩ := id C
  have hK := hE.k
  refine lv_aload_n hx hb dTx_isWord_0 rfl (lv_at hl 0 rfl) ?_
  refine lv_iload_n hx hb dTx_isWord_1 rfl (lv_at hl 1 rfl) ?_
  obtain ⟨q_1, hq_1, h⟩ := op_b h
  refine dc_calli (va_runV (As := [.int v1]) (rest := []) ⟨hx, hb, hml, hown, hts⟩ (mTx_length l D K _ v1 h0 a0 o0 _ hq_1) (cwV 1 hts (cf_GV wv_752 wv_753 wv_754 wv_158 wv_755) rfl rfl rfl (by decide +kernel) ⟨Nat.le_of_ble_eq_true rfl, Nat.le_of_ble_eq_true rfl⟩) (dc_preV hE hP hD hS hA rfl 0 rfl) rfl rfl hl.1 rfl (lv_room (Nat.le_of_ble_eq_true rfl)) dTx_isWord_2 ⟨Nat.le_of_ble_eq_true rfl, Nat.le_of_ble_eq_true rfl⟩) hP hD hS hA (fun r_2 H locs hw_3 hP hD hS => ?_)
  subst r_2
  refine lv_aload_n hx hb dTx_isWord_5 rfl (lv_at hl 2 rfl) ?_
  obtain ⟨q_4, hq_4, h⟩ := op_b h
  refine cf_calli (wc := []) (wr := wTx K h0 a0 o0) (va_runV (As := []) (rest := [.int q_1]) ⟨hx, hb, hml, hown, hts⟩ (mJString_length__S5 l D K _ _ hq_4) (cwV 0 hts (cf_GV wv_756 wv_757 wv_758 wv_168 wv_759) rfl rfl rfl (by decide +kernel) ⟨Nat.le_of_ble_eq_true rfl, Nat.le_of_ble_eq_true rfl⟩) (cf_preO (wc := []) (hE.s 5 rfl).2.1 hE hP hD hS hA [] rfl (by decide +kernel)) rfl rfl hl.1 rfl (lv_room (Nat.le_of_ble_eq_true rfl)) dTx_isWord_6 ⟨Nat.le_of_ble_eq_true rfl, Nat.le_of_ble_eq_true rfl⟩) hP hD hS hA [] [0, 1, 2, 3] rfl rfl (by decide +kernel) (by decide +kernel) (fun r_5 _ H locs hw_6 hP hD hS => ?_)
  subst r_5
  have hP : va_P D vwCl (wTx K h0 a0 o0) H := hP.sub [0, 1, 2, 3] rfl
  have hD : va_D A (wTx K h0 a0 o0) := hD.sub [0, 1, 2, 3] (by decide +kernel) rfl
  refine lv_icmp_eq (tgt := 14) hx hb dTx_isWord_9 (by decide) (fun c_7 => ?_) (fun c_7 => ?_)
  · have h := op_t c_7 h
    refine lv_iconst (v := 0) hx hb dTx_isWord_14 (by decide) ?_
    refine lv_istore_n (lv' := [(3, .int 0), (0, .ref h0), (1, .int v1), (2, .ref (K 105))]) hx hb dTx_isWord_15 rfl hl (by decide) rfl (fun ls hl => ?_)
    exact (ih) _ _ _ _ h hP hD hS (lv_sub hl [1, 2, 3, 0] rfl)
  · have h := op_f c_7 h
    refine lv_iconst (v := 0) hx hb dTx_isWord_12 (by decide) ?_
    obtain rfl := Option.some.inj h
    exact dc_zret hx hb hr rfl hlocks rfl hP hD hS dTx_isWord_13
theorem iTx_isWord_S5 {p : Program} {l : Launch} {e : Env} {s : State} {m : MethodId} {below : List Frame} {meth : Method} {c : Code} {A : Nat → Prop} {D : va_G} {K : Nat → ClassId} {h0 : Nat} {a0 : Nat → Nat} {AR : Array Value} (C : (dc_C p s m AR meth c cTx_isWord 4 (Option.some Jvm.ClassFile.FieldType.boolean) yTx_isWord ∧ cf_E D K A s s.heap ∧ ∀ q, s.heap.size ≤ q → A q)) : ∀ n, IhTx_isWord_S5 p l e s m below meth c A D K h0 a0 AR n := by
  intro n
  induction n with
  | zero => exact (fun _ _ _ r h => by cases (show none = some r from h))
  | succ n ih => exact fun x0 x1 x2 r h _ _ _ hP hD hS hl => bTx_isWord_S5_16 C ih x0 x1 x2 r h hP hD hS hl
set_option maxRecDepth 100000 in
theorem mTx_isWord_S5 (l : Launch) (D : va_G) (K : Nat → ClassId) (sz : Nat) (v1 : Int32) (h0 : Nat) (a0 : Nat → Nat) (o0 : cf_O) (r : Int32) (h : fTx_isWord_S5 v1 o0 = some r) : Met l yTx_isWord (Cond.code yTx_isWord cTx_isWord 4 (Option.some Jvm.ClassFile.FieldType.boolean) :: cfB) ({ frames := 4, cells := 0, slots := 0, locals := 85 }) (va_Pc [.ref h0, .int v1, .ref (K 105)] (cf_Pre D K sz (wTx K h0 a0 o0))) (va_Qi (fun (x : Int32) (_ : Unit) => x = r) (fun (_ : Unit) t => cf_At D (va_A (wTx K h0 a0 o0) sz) (wTx K h0 a0 o0) t) (va_A (wTx K h0 a0 o0) sz)) 0 0 (va_A (wTx K h0 a0 o0) sz) := by
  refine cf_ofW (y := yTx_isWord) (As := [.ref h0, .int v1, .ref (K 105)]) (WS := wTx K h0 a0 o0) (maxL := 4) (fun A => (va_Qi (fun (x : Int32) (_ : Unit) => x = r) (fun (_ : Unit) t => cf_At D A (wTx K h0 a0 o0) t) A)) (by decide) (Nat.le_of_ble_eq_true rfl) ?_
  intro p e s m below meth c A ls En hsz hA hP hD hE hS hl
  have C : (dc_C p s m (([.ref h0, .int v1, .ref (K 105)] : List Value).toArray) meth c cTx_isWord 4 (Option.some Jvm.ClassFile.FieldType.boolean) yTx_isWord ∧ cf_E D K A s s.heap ∧ ∀ q, s.heap.size ≤ q → A q) := ⟨En, hE, hA⟩
  exact bTx_isWord_S5_0 C (iTx_isWord_S5 C cfFU) v1 o0 r h hP hD hS hl
